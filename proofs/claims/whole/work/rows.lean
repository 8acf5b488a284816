section
-- ===== PART A: goes FIRST, ahead of the names: the tables' words, and 'selects' of the private methods out of them =====
/-- a private method of a class that the tables say can be made, by its rows of tables_1 -/
def lw_okq (q : MethodName × Nat) : Prop := (q.1.cls ≠ "java/lang/invoke/MethodHandle" ∧ q.1.cls ≠ "java/lang/invoke/VarHandle") ∧ Cond.instantiable q.1.cls q.2 ∈ tables_1 ∧ Cond.privateMethod q.1 ∈ tables_1 ∧ Cond.instanceMethod q.1 ∈ tables_1
theorem lw_p0 : lw_okq (⟨"PackShelf", "bringMade", "()I"⟩, 9) := ⟨⟨by decide +kernel, by decide +kernel⟩, List.mem_of_getElem? (i := 19) (by decide +kernel), List.mem_of_getElem? (i := 251) (by decide +kernel), List.mem_of_getElem? (i := 252) (by decide +kernel)⟩
theorem lw_p1 : lw_okq (⟨"PackShelf$Sum", "begin", "()V"⟩, 4) := ⟨⟨by decide +kernel, by decide +kernel⟩, List.mem_of_getElem? (i := 117) (by decide +kernel), List.mem_of_getElem? (i := 322) (by decide +kernel), List.mem_of_getElem? (i := 323) (by decide +kernel)⟩
theorem lw_p2 : lw_okq (⟨"PackShelf$Sum", "takeRow", "(LPackShelf$Row;I)V"⟩, 4) := ⟨⟨by decide +kernel, by decide +kernel⟩, List.mem_of_getElem? (i := 117) (by decide +kernel), List.mem_of_getElem? (i := 329) (by decide +kernel), List.mem_of_getElem? (i := 330) (by decide +kernel)⟩
theorem lw_p3 : lw_okq (⟨"PackShelf$Sum", "take", "(I)V"⟩, 4) := ⟨⟨by decide +kernel, by decide +kernel⟩, List.mem_of_getElem? (i := 117) (by decide +kernel), List.mem_of_getElem? (i := 333) (by decide +kernel), List.mem_of_getElem? (i := 334) (by decide +kernel)⟩
theorem lw_p4 : lw_okq (⟨"PackShelf$Sum", "stir", "()V"⟩, 4) := ⟨⟨by decide +kernel, by decide +kernel⟩, List.mem_of_getElem? (i := 117) (by decide +kernel), List.mem_of_getElem? (i := 337) (by decide +kernel), List.mem_of_getElem? (i := 338) (by decide +kernel)⟩
theorem lw_p5 : lw_okq (⟨"PackShelf$Sum", "end", "()V"⟩, 4) := ⟨⟨by decide +kernel, by decide +kernel⟩, List.mem_of_getElem? (i := 117) (by decide +kernel), List.mem_of_getElem? (i := 349) (by decide +kernel), List.mem_of_getElem? (i := 350) (by decide +kernel)⟩
theorem lw_p6 : lw_okq (⟨"PackShelf", "putEntry", "(ILPackShelf$Thing;)V"⟩, 9) := ⟨⟨by decide +kernel, by decide +kernel⟩, List.mem_of_getElem? (i := 19) (by decide +kernel), List.mem_of_getElem? (i := 391) (by decide +kernel), List.mem_of_getElem? (i := 392) (by decide +kernel)⟩
theorem lw_p7 : lw_okq (⟨"PackShelf", "dropDraft", "()V"⟩, 9) := ⟨⟨by decide +kernel, by decide +kernel⟩, List.mem_of_getElem? (i := 19) (by decide +kernel), List.mem_of_getElem? (i := 406) (by decide +kernel), List.mem_of_getElem? (i := 407) (by decide +kernel)⟩
theorem lw_p8 : lw_okq (⟨"PackShelf", "putNamed", "(Ljava/lang/String;I)V"⟩, 9) := ⟨⟨by decide +kernel, by decide +kernel⟩, List.mem_of_getElem? (i := 19) (by decide +kernel), List.mem_of_getElem? (i := 415) (by decide +kernel), List.mem_of_getElem? (i := 416) (by decide +kernel)⟩
theorem lw_p9 : lw_okq (⟨"PackShelf$Store", "reach", "(I)V"⟩, 6) := ⟨⟨by decide +kernel, by decide +kernel⟩, List.mem_of_getElem? (i := 27) (by decide +kernel), List.mem_of_getElem? (i := 442) (by decide +kernel), List.mem_of_getElem? (i := 443) (by decide +kernel)⟩
theorem lw_p10 : lw_okq (⟨"PackShelf$Store", "moveDown", "(II)V"⟩, 6) := ⟨⟨by decide +kernel, by decide +kernel⟩, List.mem_of_getElem? (i := 27) (by decide +kernel), List.mem_of_getElem? (i := 462) (by decide +kernel), List.mem_of_getElem? (i := 463) (by decide +kernel)⟩
theorem lw_p11 : lw_okq (⟨"PackShelf$Writer", "writeThing", "(LPackShelf$Thing;LPackShelf$Row;)V"⟩, 4) := ⟨⟨by decide +kernel, by decide +kernel⟩, List.mem_of_getElem? (i := 141) (by decide +kernel), List.mem_of_getElem? (i := 506) (by decide +kernel), List.mem_of_getElem? (i := 507) (by decide +kernel)⟩
theorem lw_p12 : lw_okq (⟨"PackShelf$Writer", "isShorterAsDifference", "(LPackShelf$Thing;)Z"⟩, 4) := ⟨⟨by decide +kernel, by decide +kernel⟩, List.mem_of_getElem? (i := 141) (by decide +kernel), List.mem_of_getElem? (i := 510) (by decide +kernel), List.mem_of_getElem? (i := 511) (by decide +kernel)⟩
theorem lw_p13 : lw_okq (⟨"PackShelf", "lookAtEnds", "()I"⟩, 9) := ⟨⟨by decide +kernel, by decide +kernel⟩, List.mem_of_getElem? (i := 19) (by decide +kernel), List.mem_of_getElem? (i := 583) (by decide +kernel), List.mem_of_getElem? (i := 584) (by decide +kernel)⟩
theorem lw_p14 : lw_okq (⟨"PackShelf$Reader", "readThing", "(LPackShelf$Row;LPackShelf$Thing;)I"⟩, 7) := ⟨⟨by decide +kernel, by decide +kernel⟩, List.mem_of_getElem? (i := 162) (by decide +kernel), List.mem_of_getElem? (i := 595) (by decide +kernel), List.mem_of_getElem? (i := 596) (by decide +kernel)⟩
theorem lw_p15 : lw_okq (⟨"PackShelf$Reader", "nextByte", "(LPackShelf$Row;)I"⟩, 7) := ⟨⟨by decide +kernel, by decide +kernel⟩, List.mem_of_getElem? (i := 162) (by decide +kernel), List.mem_of_getElem? (i := 599) (by decide +kernel), List.mem_of_getElem? (i := 600) (by decide +kernel)⟩
def lw_privs_1 : List (MethodName × Nat) := [(⟨"PackShelf", "bringMade", "()I"⟩, 9), (⟨"PackShelf$Sum", "begin", "()V"⟩, 4), (⟨"PackShelf$Sum", "takeRow", "(LPackShelf$Row;I)V"⟩, 4), (⟨"PackShelf$Sum", "take", "(I)V"⟩, 4), (⟨"PackShelf$Sum", "stir", "()V"⟩, 4), (⟨"PackShelf$Sum", "end", "()V"⟩, 4), (⟨"PackShelf", "putEntry", "(ILPackShelf$Thing;)V"⟩, 9), (⟨"PackShelf", "dropDraft", "()V"⟩, 9), (⟨"PackShelf", "putNamed", "(Ljava/lang/String;I)V"⟩, 9), (⟨"PackShelf$Store", "reach", "(I)V"⟩, 6), (⟨"PackShelf$Store", "moveDown", "(II)V"⟩, 6), (⟨"PackShelf$Writer", "writeThing", "(LPackShelf$Thing;LPackShelf$Row;)V"⟩, 4), (⟨"PackShelf$Writer", "isShorterAsDifference", "(LPackShelf$Thing;)Z"⟩, 4), (⟨"PackShelf", "lookAtEnds", "()I"⟩, 9), (⟨"PackShelf$Reader", "readThing", "(LPackShelf$Row;LPackShelf$Thing;)I"⟩, 7), (⟨"PackShelf$Reader", "nextByte", "(LPackShelf$Row;)I"⟩, 7)]
theorem lw_r1 : ∀ q ∈ lw_privs_1, lw_okq q := List.forall_mem_cons.mpr ⟨lw_p0, List.forall_mem_cons.mpr ⟨lw_p1, List.forall_mem_cons.mpr ⟨lw_p2, List.forall_mem_cons.mpr ⟨lw_p3, List.forall_mem_cons.mpr ⟨lw_p4, List.forall_mem_cons.mpr ⟨lw_p5, List.forall_mem_cons.mpr ⟨lw_p6, List.forall_mem_cons.mpr ⟨lw_p7, List.forall_mem_cons.mpr ⟨lw_p8, List.forall_mem_cons.mpr ⟨lw_p9, List.forall_mem_cons.mpr ⟨lw_p10, List.forall_mem_cons.mpr ⟨lw_p11, List.forall_mem_cons.mpr ⟨lw_p12, List.forall_mem_cons.mpr ⟨lw_p13, List.forall_mem_cons.mpr ⟨lw_p14, List.forall_mem_cons.mpr ⟨lw_p15, fun _ h => absurd h List.not_mem_nil⟩⟩⟩⟩⟩⟩⟩⟩⟩⟩⟩⟩⟩⟩⟩⟩
theorem lw_p16 : lw_okq (⟨"PackShelf$Reader", "readNumber", "(LPackShelf$Row;I)I"⟩, 7) := ⟨⟨by decide +kernel, by decide +kernel⟩, List.mem_of_getElem? (i := 162) (by decide +kernel), List.mem_of_getElem? (i := 604) (by decide +kernel), List.mem_of_getElem? (i := 605) (by decide +kernel)⟩
theorem lw_p17 : lw_okq (⟨"PackShelf$Reader", "readOther", "(LPackShelf$Row;)I"⟩, 7) := ⟨⟨by decide +kernel, by decide +kernel⟩, List.mem_of_getElem? (i := 162) (by decide +kernel), List.mem_of_getElem? (i := 612) (by decide +kernel), List.mem_of_getElem? (i := 613) (by decide +kernel)⟩
theorem lw_p18 : lw_okq (⟨"PackShelf$Reader", "readWrapped", "(LPackShelf$Row;I)I"⟩, 7) := ⟨⟨by decide +kernel, by decide +kernel⟩, List.mem_of_getElem? (i := 162) (by decide +kernel), List.mem_of_getElem? (i := 616) (by decide +kernel), List.mem_of_getElem? (i := 617) (by decide +kernel)⟩
theorem lw_p19 : lw_okq (⟨"PackShelf$Reader", "readDue", "(LPackShelf$Row;)I"⟩, 7) := ⟨⟨by decide +kernel, by decide +kernel⟩, List.mem_of_getElem? (i := 162) (by decide +kernel), List.mem_of_getElem? (i := 622) (by decide +kernel), List.mem_of_getElem? (i := 623) (by decide +kernel)⟩
theorem lw_p20 : lw_okq (⟨"PackShelf$Reader", "takeDifference", "(LPackShelf$Thing;LPackShelf$Thing;)I"⟩, 7) := ⟨⟨by decide +kernel, by decide +kernel⟩, List.mem_of_getElem? (i := 162) (by decide +kernel), List.mem_of_getElem? (i := 628) (by decide +kernel), List.mem_of_getElem? (i := 629) (by decide +kernel)⟩
theorem lw_p21 : lw_okq (⟨"PackShelf$Reader", "takeWhole", "(ILPackShelf$Thing;)I"⟩, 7) := ⟨⟨by decide +kernel, by decide +kernel⟩, List.mem_of_getElem? (i := 162) (by decide +kernel), List.mem_of_getElem? (i := 637) (by decide +kernel), List.mem_of_getElem? (i := 638) (by decide +kernel)⟩
theorem lw_p22 : lw_okq (⟨"PackShelf$Reader", "isReadBefore", "(I)Z"⟩, 7) := ⟨⟨by decide +kernel, by decide +kernel⟩, List.mem_of_getElem? (i := 162) (by decide +kernel), List.mem_of_getElem? (i := 647) (by decide +kernel), List.mem_of_getElem? (i := 648) (by decide +kernel)⟩
theorem lw_p23 : lw_okq (⟨"PackShelf", "bringRead", "()I"⟩, 9) := ⟨⟨by decide +kernel, by decide +kernel⟩, List.mem_of_getElem? (i := 19) (by decide +kernel), List.mem_of_getElem? (i := 652) (by decide +kernel), List.mem_of_getElem? (i := 653) (by decide +kernel)⟩
theorem lw_p24 : lw_okq (⟨"PackShelfModel", "begin", "(I)V"⟩, 25) := ⟨⟨by decide +kernel, by decide +kernel⟩, List.mem_of_getElem? (i := 656) (by decide +kernel), List.mem_of_getElem? (i := 747) (by decide +kernel), List.mem_of_getElem? (i := 748) (by decide +kernel)⟩
theorem lw_p25 : lw_okq (⟨"PackShelfModel", "add", "(I)V"⟩, 25) := ⟨⟨by decide +kernel, by decide +kernel⟩, List.mem_of_getElem? (i := 656) (by decide +kernel), List.mem_of_getElem? (i := 751) (by decide +kernel), List.mem_of_getElem? (i := 752) (by decide +kernel)⟩
theorem lw_p26 : lw_okq (⟨"PackShelfModel", "come", "()I"⟩, 25) := ⟨⟨by decide +kernel, by decide +kernel⟩, List.mem_of_getElem? (i := 656) (by decide +kernel), List.mem_of_getElem? (i := 755) (by decide +kernel), List.mem_of_getElem? (i := 756) (by decide +kernel)⟩
theorem lw_p27 : lw_okq (⟨"PackShelfModel", "call", "(I)V"⟩, 25) := ⟨⟨by decide +kernel, by decide +kernel⟩, List.mem_of_getElem? (i := 656) (by decide +kernel), List.mem_of_getElem? (i := 759) (by decide +kernel), List.mem_of_getElem? (i := 760) (by decide +kernel)⟩
theorem lw_p28 : lw_okq (⟨"PackShelfModel", "put", "(I)V"⟩, 25) := ⟨⟨by decide +kernel, by decide +kernel⟩, List.mem_of_getElem? (i := 656) (by decide +kernel), List.mem_of_getElem? (i := 763) (by decide +kernel), List.mem_of_getElem? (i := 764) (by decide +kernel)⟩
theorem lw_p29 : lw_okq (⟨"PackShelfModel", "putDecimal", "(I)V"⟩, 25) := ⟨⟨by decide +kernel, by decide +kernel⟩, List.mem_of_getElem? (i := 656) (by decide +kernel), List.mem_of_getElem? (i := 767) (by decide +kernel), List.mem_of_getElem? (i := 768) (by decide +kernel)⟩
theorem lw_p30 : lw_okq (⟨"PackShelfModel", "sum", "()V"⟩, 25) := ⟨⟨by decide +kernel, by decide +kernel⟩, List.mem_of_getElem? (i := 656) (by decide +kernel), List.mem_of_getElem? (i := 771) (by decide +kernel), List.mem_of_getElem? (i := 772) (by decide +kernel)⟩
theorem lw_p31 : lw_okq (⟨"PackShelfModel", "block", "(I)V"⟩, 25) := ⟨⟨by decide +kernel, by decide +kernel⟩, List.mem_of_getElem? (i := 656) (by decide +kernel), List.mem_of_getElem? (i := 780) (by decide +kernel), List.mem_of_getElem? (i := 781) (by decide +kernel)⟩
def lw_privs_2 : List (MethodName × Nat) := [(⟨"PackShelf$Reader", "readNumber", "(LPackShelf$Row;I)I"⟩, 7), (⟨"PackShelf$Reader", "readOther", "(LPackShelf$Row;)I"⟩, 7), (⟨"PackShelf$Reader", "readWrapped", "(LPackShelf$Row;I)I"⟩, 7), (⟨"PackShelf$Reader", "readDue", "(LPackShelf$Row;)I"⟩, 7), (⟨"PackShelf$Reader", "takeDifference", "(LPackShelf$Thing;LPackShelf$Thing;)I"⟩, 7), (⟨"PackShelf$Reader", "takeWhole", "(ILPackShelf$Thing;)I"⟩, 7), (⟨"PackShelf$Reader", "isReadBefore", "(I)Z"⟩, 7), (⟨"PackShelf", "bringRead", "()I"⟩, 9), (⟨"PackShelfModel", "begin", "(I)V"⟩, 25), (⟨"PackShelfModel", "add", "(I)V"⟩, 25), (⟨"PackShelfModel", "come", "()I"⟩, 25), (⟨"PackShelfModel", "call", "(I)V"⟩, 25), (⟨"PackShelfModel", "put", "(I)V"⟩, 25), (⟨"PackShelfModel", "putDecimal", "(I)V"⟩, 25), (⟨"PackShelfModel", "sum", "()V"⟩, 25), (⟨"PackShelfModel", "block", "(I)V"⟩, 25)]
theorem lw_r2 : ∀ q ∈ lw_privs_2, lw_okq q := List.forall_mem_cons.mpr ⟨lw_p16, List.forall_mem_cons.mpr ⟨lw_p17, List.forall_mem_cons.mpr ⟨lw_p18, List.forall_mem_cons.mpr ⟨lw_p19, List.forall_mem_cons.mpr ⟨lw_p20, List.forall_mem_cons.mpr ⟨lw_p21, List.forall_mem_cons.mpr ⟨lw_p22, List.forall_mem_cons.mpr ⟨lw_p23, List.forall_mem_cons.mpr ⟨lw_p24, List.forall_mem_cons.mpr ⟨lw_p25, List.forall_mem_cons.mpr ⟨lw_p26, List.forall_mem_cons.mpr ⟨lw_p27, List.forall_mem_cons.mpr ⟨lw_p28, List.forall_mem_cons.mpr ⟨lw_p29, List.forall_mem_cons.mpr ⟨lw_p30, List.forall_mem_cons.mpr ⟨lw_p31, fun _ h => absurd h List.not_mem_nil⟩⟩⟩⟩⟩⟩⟩⟩⟩⟩⟩⟩⟩⟩⟩⟩
theorem lw_p32 : lw_okq (⟨"PackShelfModel", "sameAs", "(I)I"⟩, 25) := ⟨⟨by decide +kernel, by decide +kernel⟩, List.mem_of_getElem? (i := 656) (by decide +kernel), List.mem_of_getElem? (i := 794) (by decide +kernel), List.mem_of_getElem? (i := 795) (by decide +kernel)⟩
theorem lw_p33 : lw_okq (⟨"PackShelfModel", "copy", "(II)V"⟩, 25) := ⟨⟨by decide +kernel, by decide +kernel⟩, List.mem_of_getElem? (i := 656) (by decide +kernel), List.mem_of_getElem? (i := 798) (by decide +kernel), List.mem_of_getElem? (i := 799) (by decide +kernel)⟩
theorem lw_p34 : lw_okq (⟨"PackShelfModel", "isKind", "(II)Z"⟩, 25) := ⟨⟨by decide +kernel, by decide +kernel⟩, List.mem_of_getElem? (i := 656) (by decide +kernel), List.mem_of_getElem? (i := 806) (by decide +kernel), List.mem_of_getElem? (i := 807) (by decide +kernel)⟩
theorem lw_p35 : lw_okq (⟨"PackShelfModel", "isThing", "(I)Z"⟩, 25) := ⟨⟨by decide +kernel, by decide +kernel⟩, List.mem_of_getElem? (i := 656) (by decide +kernel), List.mem_of_getElem? (i := 810) (by decide +kernel), List.mem_of_getElem? (i := 811) (by decide +kernel)⟩
theorem lw_p36 : lw_okq (⟨"PackShelfModel", "addEntry", "(I)V"⟩, 25) := ⟨⟨by decide +kernel, by decide +kernel⟩, List.mem_of_getElem? (i := 656) (by decide +kernel), List.mem_of_getElem? (i := 818) (by decide +kernel), List.mem_of_getElem? (i := 819) (by decide +kernel)⟩
theorem lw_p37 : lw_okq (⟨"PackShelfModel", "addName", "(I)V"⟩, 25) := ⟨⟨by decide +kernel, by decide +kernel⟩, List.mem_of_getElem? (i := 656) (by decide +kernel), List.mem_of_getElem? (i := 822) (by decide +kernel), List.mem_of_getElem? (i := 823) (by decide +kernel)⟩
theorem lw_p38 : lw_okq (⟨"PackShelfModel", "nameByte", "(II)I"⟩, 25) := ⟨⟨by decide +kernel, by decide +kernel⟩, List.mem_of_getElem? (i := 656) (by decide +kernel), List.mem_of_getElem? (i := 826) (by decide +kernel), List.mem_of_getElem? (i := 827) (by decide +kernel)⟩
theorem lw_p39 : lw_okq (⟨"PackShelfModel", "spread", "()V"⟩, 25) := ⟨⟨by decide +kernel, by decide +kernel⟩, List.mem_of_getElem? (i := 656) (by decide +kernel), List.mem_of_getElem? (i := 846) (by decide +kernel), List.mem_of_getElem? (i := 847) (by decide +kernel)⟩
theorem lw_p40 : lw_okq (⟨"PackShelfModel", "refers", "(II)Z"⟩, 25) := ⟨⟨by decide +kernel, by decide +kernel⟩, List.mem_of_getElem? (i := 656) (by decide +kernel), List.mem_of_getElem? (i := 850) (by decide +kernel), List.mem_of_getElem? (i := 851) (by decide +kernel)⟩
theorem lw_p41 : lw_okq (⟨"PackShelfModel", "write", "(I)V"⟩, 25) := ⟨⟨by decide +kernel, by decide +kernel⟩, List.mem_of_getElem? (i := 656) (by decide +kernel), List.mem_of_getElem? (i := 882) (by decide +kernel), List.mem_of_getElem? (i := 883) (by decide +kernel)⟩
theorem lw_p42 : lw_okq (⟨"PackShelfModel", "differ", "(II)I"⟩, 25) := ⟨⟨by decide +kernel, by decide +kernel⟩, List.mem_of_getElem? (i := 656) (by decide +kernel), List.mem_of_getElem? (i := 886) (by decide +kernel), List.mem_of_getElem? (i := 887) (by decide +kernel)⟩
theorem lw_p43 : lw_okq (⟨"PackShelfModel", "alike", "(IIII)I"⟩, 25) := ⟨⟨by decide +kernel, by decide +kernel⟩, List.mem_of_getElem? (i := 656) (by decide +kernel), List.mem_of_getElem? (i := 890) (by decide +kernel), List.mem_of_getElem? (i := 891) (by decide +kernel)⟩
theorem lw_p44 : lw_okq (⟨"PackShelfModel", "writeMark", "(II)V"⟩, 25) := ⟨⟨by decide +kernel, by decide +kernel⟩, List.mem_of_getElem? (i := 656) (by decide +kernel), List.mem_of_getElem? (i := 894) (by decide +kernel), List.mem_of_getElem? (i := 895) (by decide +kernel)⟩
theorem lw_p45 : lw_okq (⟨"PackShelfModel", "writeDistance", "(I)V"⟩, 25) := ⟨⟨by decide +kernel, by decide +kernel⟩, List.mem_of_getElem? (i := 656) (by decide +kernel), List.mem_of_getElem? (i := 898) (by decide +kernel), List.mem_of_getElem? (i := 899) (by decide +kernel)⟩
theorem lw_p46 : lw_okq (⟨"PackShelfModel", "writeWrapped", "(I)V"⟩, 25) := ⟨⟨by decide +kernel, by decide +kernel⟩, List.mem_of_getElem? (i := 656) (by decide +kernel), List.mem_of_getElem? (i := 902) (by decide +kernel), List.mem_of_getElem? (i := 903) (by decide +kernel)⟩
theorem lw_p47 : lw_okq (⟨"PackShelfModel", "sealPack", "()V"⟩, 25) := ⟨⟨by decide +kernel, by decide +kernel⟩, List.mem_of_getElem? (i := 656) (by decide +kernel), List.mem_of_getElem? (i := 908) (by decide +kernel), List.mem_of_getElem? (i := 909) (by decide +kernel)⟩
def lw_privs_3 : List (MethodName × Nat) := [(⟨"PackShelfModel", "sameAs", "(I)I"⟩, 25), (⟨"PackShelfModel", "copy", "(II)V"⟩, 25), (⟨"PackShelfModel", "isKind", "(II)Z"⟩, 25), (⟨"PackShelfModel", "isThing", "(I)Z"⟩, 25), (⟨"PackShelfModel", "addEntry", "(I)V"⟩, 25), (⟨"PackShelfModel", "addName", "(I)V"⟩, 25), (⟨"PackShelfModel", "nameByte", "(II)I"⟩, 25), (⟨"PackShelfModel", "spread", "()V"⟩, 25), (⟨"PackShelfModel", "refers", "(II)Z"⟩, 25), (⟨"PackShelfModel", "write", "(I)V"⟩, 25), (⟨"PackShelfModel", "differ", "(II)I"⟩, 25), (⟨"PackShelfModel", "alike", "(IIII)I"⟩, 25), (⟨"PackShelfModel", "writeMark", "(II)V"⟩, 25), (⟨"PackShelfModel", "writeDistance", "(I)V"⟩, 25), (⟨"PackShelfModel", "writeWrapped", "(I)V"⟩, 25), (⟨"PackShelfModel", "sealPack", "()V"⟩, 25)]
theorem lw_r3 : ∀ q ∈ lw_privs_3, lw_okq q := List.forall_mem_cons.mpr ⟨lw_p32, List.forall_mem_cons.mpr ⟨lw_p33, List.forall_mem_cons.mpr ⟨lw_p34, List.forall_mem_cons.mpr ⟨lw_p35, List.forall_mem_cons.mpr ⟨lw_p36, List.forall_mem_cons.mpr ⟨lw_p37, List.forall_mem_cons.mpr ⟨lw_p38, List.forall_mem_cons.mpr ⟨lw_p39, List.forall_mem_cons.mpr ⟨lw_p40, List.forall_mem_cons.mpr ⟨lw_p41, List.forall_mem_cons.mpr ⟨lw_p42, List.forall_mem_cons.mpr ⟨lw_p43, List.forall_mem_cons.mpr ⟨lw_p44, List.forall_mem_cons.mpr ⟨lw_p45, List.forall_mem_cons.mpr ⟨lw_p46, List.forall_mem_cons.mpr ⟨lw_p47, fun _ h => absurd h List.not_mem_nil⟩⟩⟩⟩⟩⟩⟩⟩⟩⟩⟩⟩⟩⟩⟩⟩
theorem lw_p48 : lw_okq (⟨"PackShelfModel", "begins", "()Z"⟩, 25) := ⟨⟨by decide +kernel, by decide +kernel⟩, List.mem_of_getElem? (i := 656) (by decide +kernel), List.mem_of_getElem? (i := 936) (by decide +kernel), List.mem_of_getElem? (i := 937) (by decide +kernel)⟩
theorem lw_p49 : lw_okq (⟨"PackShelfModel", "isSealed", "()Z"⟩, 25) := ⟨⟨by decide +kernel, by decide +kernel⟩, List.mem_of_getElem? (i := 656) (by decide +kernel), List.mem_of_getElem? (i := 940) (by decide +kernel), List.mem_of_getElem? (i := 941) (by decide +kernel)⟩
theorem lw_p50 : lw_okq (⟨"PackShelfModel", "readThing", "(I)V"⟩, 25) := ⟨⟨by decide +kernel, by decide +kernel⟩, List.mem_of_getElem? (i := 656) (by decide +kernel), List.mem_of_getElem? (i := 944) (by decide +kernel), List.mem_of_getElem? (i := 945) (by decide +kernel)⟩
theorem lw_p51 : lw_okq (⟨"PackShelfModel", "next", "()I"⟩, 25) := ⟨⟨by decide +kernel, by decide +kernel⟩, List.mem_of_getElem? (i := 656) (by decide +kernel), List.mem_of_getElem? (i := 948) (by decide +kernel), List.mem_of_getElem? (i := 949) (by decide +kernel)⟩
theorem lw_p52 : lw_okq (⟨"PackShelfModel", "readSize", "(I)I"⟩, 25) := ⟨⟨by decide +kernel, by decide +kernel⟩, List.mem_of_getElem? (i := 656) (by decide +kernel), List.mem_of_getElem? (i := 952) (by decide +kernel), List.mem_of_getElem? (i := 953) (by decide +kernel)⟩
theorem lw_p53 : lw_okq (⟨"PackShelfModel", "readWrapped", "(I)V"⟩, 25) := ⟨⟨by decide +kernel, by decide +kernel⟩, List.mem_of_getElem? (i := 656) (by decide +kernel), List.mem_of_getElem? (i := 956) (by decide +kernel), List.mem_of_getElem? (i := 957) (by decide +kernel)⟩
theorem lw_p54 : lw_okq (⟨"PackShelfModel", "expect", "(I)V"⟩, 25) := ⟨⟨by decide +kernel, by decide +kernel⟩, List.mem_of_getElem? (i := 656) (by decide +kernel), List.mem_of_getElem? (i := 960) (by decide +kernel), List.mem_of_getElem? (i := 961) (by decide +kernel)⟩
theorem lw_p55 : lw_okq (⟨"PackShelfModel", "carryOut", "(III)V"⟩, 25) := ⟨⟨by decide +kernel, by decide +kernel⟩, List.mem_of_getElem? (i := 656) (by decide +kernel), List.mem_of_getElem? (i := 964) (by decide +kernel), List.mem_of_getElem? (i := 965) (by decide +kernel)⟩
def lw_privs_4 : List (MethodName × Nat) := [(⟨"PackShelfModel", "begins", "()Z"⟩, 25), (⟨"PackShelfModel", "isSealed", "()Z"⟩, 25), (⟨"PackShelfModel", "readThing", "(I)V"⟩, 25), (⟨"PackShelfModel", "next", "()I"⟩, 25), (⟨"PackShelfModel", "readSize", "(I)I"⟩, 25), (⟨"PackShelfModel", "readWrapped", "(I)V"⟩, 25), (⟨"PackShelfModel", "expect", "(I)V"⟩, 25), (⟨"PackShelfModel", "carryOut", "(III)V"⟩, 25)]
theorem lw_r4 : ∀ q ∈ lw_privs_4, lw_okq q := List.forall_mem_cons.mpr ⟨lw_p48, List.forall_mem_cons.mpr ⟨lw_p49, List.forall_mem_cons.mpr ⟨lw_p50, List.forall_mem_cons.mpr ⟨lw_p51, List.forall_mem_cons.mpr ⟨lw_p52, List.forall_mem_cons.mpr ⟨lw_p53, List.forall_mem_cons.mpr ⟨lw_p54, List.forall_mem_cons.mpr ⟨lw_p55, fun _ h => absurd h List.not_mem_nil⟩⟩⟩⟩⟩⟩⟩⟩
def lw_privs : List (MethodName × Nat) := lw_privs_1 ++ (lw_privs_2 ++ (lw_privs_3 ++ (lw_privs_4)))
def lw_tbl : List Cond := k2_sels lw_privs ++ tables_1
theorem lw_privs_ok : ∀ q ∈ lw_privs, lw_okq q := by
  show ∀ q ∈ lw_privs_1 ++ (lw_privs_2 ++ (lw_privs_3 ++ (lw_privs_4))), lw_okq q
  exact List.forall_mem_append.mpr ⟨lw_r1, List.forall_mem_append.mpr ⟨lw_r2, List.forall_mem_append.mpr ⟨lw_r3, lw_r4⟩⟩⟩
end
section
def R_P : String := "PackShelf"
def F_P : u_T := fun k => match k with
  | 0 => ("PackShelf", "store", "LPackShelf$Store;", true)
  | 1 => ("PackShelf", "typed", "LPackShelf$Row;", true)
  | 2 => ("PackShelf", "draft", "[I", true)
  | 3 => ("PackShelf", "drafted", "I", false)
  | 4 => ("PackShelf", "packRow", "LPackShelf$Row;", true)
  | 5 => ("PackShelf", "sum", "LPackShelf$Sum;", true)
  | 6 => ("PackShelf", "made", "LPackShelf$Thing;", true)
  | 7 => ("PackShelf", "writer", "LPackShelf$Writer;", true)
  | _ => ("PackShelf", "reader", "LPackShelf$Reader;", true)
def t_P : Nat → FieldType := fun k => match k with
  | 0 => .object "PackShelf$Store"
  | 1 => .object "PackShelf$Row"
  | 2 => .array .int
  | 3 => .int
  | 4 => .object "PackShelf$Row"
  | 5 => .object "PackShelf$Sum"
  | 6 => .object "PackShelf$Thing"
  | 7 => .object "PackShelf$Writer"
  | _ => .object "PackShelf$Reader"
theorem n_P : ∀ a, a < 9 → ∀ b, b < 9 → a ≠ b → (F_P a).2.1 ≠ (F_P b).2.1 := by decide +kernel
theorem t_P_ok : ∀ k, k < 9 → parseFieldDescriptor (F_P k).2.2.1 = some (t_P k) := by decide +kernel
def R_Row : String := "PackShelf$Row"
def F_Row : u_T := fun k => match k with
  | 0 => ("PackShelf$Row", "bytes", "[I", true)
  | _ => ("PackShelf$Row", "length", "I", false)
def t_Row : Nat → FieldType := fun k => match k with
  | 0 => .array .int
  | _ => .int
theorem n_Row : ∀ a, a < 2 → ∀ b, b < 2 → a ≠ b → (F_Row a).2.1 ≠ (F_Row b).2.1 := by decide +kernel
theorem t_Row_ok : ∀ k, k < 2 → parseFieldDescriptor (F_Row k).2.2.1 = some (t_Row k) := by decide +kernel
def R_Sum : String := "PackShelf$Sum"
def F_Sum : u_T := fun k => match k with
  | 0 => ("PackShelf$Sum", "ints", "[I", true)
  | 1 => ("PackShelf$Sum", "words", "[I", true)
  | 2 => ("PackShelf$Sum", "head", "LPackShelf$Row;", true)
  | _ => ("PackShelf$Sum", "taken", "I", false)
def t_Sum : Nat → FieldType := fun k => match k with
  | 0 => .array .int
  | 1 => .array .int
  | 2 => .object "PackShelf$Row"
  | _ => .int
theorem n_Sum : ∀ a, a < 4 → ∀ b, b < 4 → a ≠ b → (F_Sum a).2.1 ≠ (F_Sum b).2.1 := by decide +kernel
theorem t_Sum_ok : ∀ k, k < 4 → parseFieldDescriptor (F_Sum k).2.2.1 = some (t_Sum k) := by decide +kernel
def R_Thing : String := "PackShelf$Thing"
def F_Thing : u_T := fun k => match k with
  | 0 => ("PackShelf$Thing", "kind", "I", false)
  | 1 => ("PackShelf$Thing", "content", "LPackShelf$Row;", true)
  | _ => ("PackShelf$Thing", "name", "[I", true)
def t_Thing : Nat → FieldType := fun k => match k with
  | 0 => .int
  | 1 => .object "PackShelf$Row"
  | _ => .array .int
theorem n_Thing : ∀ a, a < 3 → ∀ b, b < 3 → a ≠ b → (F_Thing a).2.1 ≠ (F_Thing b).2.1 := by decide +kernel
theorem t_Thing_ok : ∀ k, k < 3 → parseFieldDescriptor (F_Thing k).2.2.1 = some (t_Thing k) := by decide +kernel
def R_Store : String := "PackShelf$Store"
def F_Store : u_T := fun k => match k with
  | 0 => ("PackShelf$Store", "things", "[LPackShelf$Thing;", true)
  | 1 => ("PackShelf$Store", "count", "I", false)
  | 2 => ("PackShelf$Store", "holds", "[I", true)
  | 3 => ("PackShelf$Store", "isReached", "[Z", true)
  | 4 => ("PackShelf$Store", "queue", "[I", true)
  | _ => ("PackShelf$Store", "queued", "I", false)
def t_Store : Nat → FieldType := fun k => match k with
  | 0 => .array (.object "PackShelf$Thing")
  | 1 => .int
  | 2 => .array .int
  | 3 => .array .boolean
  | 4 => .array .int
  | _ => .int
theorem n_Store : ∀ a, a < 6 → ∀ b, b < 6 → a ≠ b → (F_Store a).2.1 ≠ (F_Store b).2.1 := by decide +kernel
theorem t_Store_ok : ∀ k, k < 6 → parseFieldDescriptor (F_Store k).2.2.1 = some (t_Store k) := by decide +kernel
def R_Wri : String := "PackShelf$Writer"
def F_Wri : u_T := fun k => match k with
  | 0 => ("PackShelf$Writer", "steps", "LPackShelf$Row;", true)
  | 1 => ("PackShelf$Writer", "before", "LPackShelf$Thing;", false)
  | 2 => ("PackShelf$Writer", "beforeStart", "I", false)
  | _ => ("PackShelf$Writer", "inRow", "I", false)
def t_Wri : Nat → FieldType := fun k => match k with
  | 0 => .object "PackShelf$Row"
  | 1 => .object "PackShelf$Thing"
  | 2 => .int
  | _ => .int
theorem n_Wri : ∀ a, a < 4 → ∀ b, b < 4 → a ≠ b → (F_Wri a).2.1 ≠ (F_Wri b).2.1 := by decide +kernel
theorem t_Wri_ok : ∀ k, k < 4 → parseFieldDescriptor (F_Wri k).2.2.1 = some (t_Wri k) := by decide +kernel
def R_Rea : String := "PackShelf$Reader"
def F_Rea : u_T := fun k => match k with
  | 0 => ("PackShelf$Reader", "read", "[LPackShelf$Thing;", true)
  | 1 => ("PackShelf$Reader", "count", "I", false)
  | 2 => ("PackShelf$Reader", "starts", "[I", true)
  | 3 => ("PackShelf$Reader", "data", "LPackShelf$Row;", true)
  | 4 => ("PackShelf$Reader", "due", "LPackShelf$Row;", true)
  | 5 => ("PackShelf$Reader", "place", "I", false)
  | _ => ("PackShelf$Reader", "end", "I", false)
def t_Rea : Nat → FieldType := fun k => match k with
  | 0 => .array (.object "PackShelf$Thing")
  | 1 => .int
  | 2 => .array .int
  | 3 => .object "PackShelf$Row"
  | 4 => .object "PackShelf$Row"
  | 5 => .int
  | _ => .int
theorem n_Rea : ∀ a, a < 7 → ∀ b, b < 7 → a ≠ b → (F_Rea a).2.1 ≠ (F_Rea b).2.1 := by decide +kernel
theorem t_Rea_ok : ∀ k, k < 7 → parseFieldDescriptor (F_Rea k).2.2.1 = some (t_Rea k) := by decide +kernel
def R_Mo : String := "PackShelfModel"
def F_Mo : u_T := fun k => match k with
  | 0 => ("PackShelfModel", "things", "I", false)
  | 1 => ("PackShelfModel", "kinds", "[I", true)
  | 2 => ("PackShelfModel", "sizes", "[I", true)
  | 3 => ("PackShelfModel", "contents", "[I", true)
  | 4 => ("PackShelfModel", "names", "[I", true)
  | 5 => ("PackShelfModel", "reach", "[Z", true)
  | 6 => ("PackShelfModel", "moved", "[I", true)
  | 7 => ("PackShelfModel", "typed", "I", false)
  | 8 => ("PackShelfModel", "typing", "[I", true)
  | 9 => ("PackShelfModel", "entries", "I", false)
  | 10 => ("PackShelfModel", "letters", "[I", true)
  | 11 => ("PackShelfModel", "inner", "[I", true)
  | 12 => ("PackShelfModel", "branches", "[I", true)
  | 13 => ("PackShelfModel", "laid", "I", false)
  | 14 => ("PackShelfModel", "lay", "[I", true)
  | 15 => ("PackShelfModel", "w", "[I", true)
  | 16 => ("PackShelfModel", "h", "[I", true)
  | 17 => ("PackShelfModel", "packed", "I", false)
  | 18 => ("PackShelfModel", "pack", "[I", true)
  | 19 => ("PackShelfModel", "starts", "[I", true)
  | 20 => ("PackShelfModel", "at", "I", false)
  | 21 => ("PackShelfModel", "limit", "I", false)
  | 22 => ("PackShelfModel", "wrong", "I", false)
  | 23 => ("PackShelfModel", "count", "I", false)
  | _ => ("PackShelfModel", "data", "[I", true)
def t_Mo : Nat → FieldType := fun k => match k with
  | 0 => .int
  | 1 => .array .int
  | 2 => .array .int
  | 3 => .array .int
  | 4 => .array .int
  | 5 => .array .boolean
  | 6 => .array .int
  | 7 => .int
  | 8 => .array .int
  | 9 => .int
  | 10 => .array .int
  | 11 => .array .int
  | 12 => .array .int
  | 13 => .int
  | 14 => .array .int
  | 15 => .array .int
  | 16 => .array .int
  | 17 => .int
  | 18 => .array .int
  | 19 => .array .int
  | 20 => .int
  | 21 => .int
  | 22 => .int
  | 23 => .int
  | _ => .array .int
theorem n_Mo : ∀ a, a < 25 → ∀ b, b < 25 → a ≠ b → (F_Mo a).2.1 ≠ (F_Mo b).2.1 := by decide +kernel
theorem t_Mo_ok : ∀ k, k < 25 → parseFieldDescriptor (F_Mo k).2.2.1 = some (t_Mo k) := by decide +kernel
def vwCl : List vw_C := [(R_P, F_P, 9), (R_Row, F_Row, 2), (R_Sum, F_Sum, 4), (R_Thing, F_Thing, 3), (R_Store, F_Store, 6), (R_Wri, F_Wri, 4), (R_Rea, F_Rea, 7), (R_Mo, F_Mo, 25)]
def ft (ci : Nat) : List Nat := match ci with
  | 0 => [1, 1, 1, 0, 1, 1, 1, 1, 1]
  | 1 => [1, 0]
  | 2 => [1, 1, 1, 0]
  | 3 => [0, 1, 1]
  | 4 => [1, 0, 1, 1, 1, 0]
  | 5 => [1, 2, 0, 0]
  | 6 => [1, 0, 1, 1, 1, 0, 0]
  | 7 => [0, 1, 1, 1, 1, 1, 1, 0, 1, 0, 1, 1, 1, 0, 1, 1, 1, 0, 1, 1, 0, 0, 0, 0, 1]
  | _ => []
def sk_ws : List Cond := lw_tbl.filter goodWord
theorem wi {x : Cond} (i : Nat) (h : lw_tbl[i]? = some x) (hg : goodWord x = true) : x ∈ sk_ws := List.mem_filter.mpr ⟨List.mem_of_getElem? h, hg⟩
def sk_tys : List FieldType := [.int, .boolean, .object "PackShelf$Thing"]
def sk_k : Nat := 17
def oN : Nat := 7
def oF : List Int32 := [1732584193, -271733879, -1732584194, 271733878, -1009589776]
def oA : List Int32 := [1518500249, 1859775393, -1894007588, -899497514]
def oB : List (List Int32) := [[99, 111, 109, 109, 105, 116, 32], [116, 114, 101, 101, 32], [98, 108, 111, 98, 32], [49, 48, 48, 54, 52, 52, 32], [52, 48, 48, 48, 48, 32], [112, 97, 114, 101, 110, 116, 32], [97, 116, 32]]
def oR : List (String × Nat × String × Nat) := [("PackShelf$Sum", 49, "commit ", 0), ("PackShelf$Sum", 51, "tree ", 1), ("PackShelf$Sum", 53, "blob ", 2), ("PackShelf", 206, "100644 ", 3), ("PackShelf", 208, "40000 ", 4), ("PackShelf", 112, "tree ", 1), ("PackShelf", 118, "parent ", 5), ("PackShelf", 120, "at ", 6)]
def oZ (A : Nat → Prop) (U : State) (H : Heap) : Prop := va_Z "java/lang/String" "COMPACT_STRINGS" "Z" (.int 1) A U H ∧ va_AO "PackShelf$Thing" U
theorem oZ_AO {A : Nat → Prop} {U : State} {H : Heap} (h : oZ A U H) : va_AO "PackShelf$Thing" U := h.2
theorem oZ_moved {A : Nat → Prop} {u U : State} {H : Heap} (hvm : u.vm.Alike U.vm) (h : oZ A u H) : oZ A U H := ⟨va_Z.moved hvm h.1, va_AO.moved hvm h.2⟩
theorem oZ_kept {A : Nat → Prop} {U : State} {H H1 : Heap} (h : oZ A U H) (hq : ∀ a : Nat, a < H.size → ¬ A a → H1[a]? = H[a]?) : oZ A U H1 := ⟨va_Z.kept h.1 hq, h.2⟩
def ky : List (Nat × Nat × List Nat) := [(203, 0, []), (202, 5, []), (202, 4, []), (200, 0, [10]), (200, 0, [11]), (200, 0, [12]), (200, 0, [13]), (200, 0, [14]), (200, 0, [15]), (200, 0, [16]), (201, 7, []), (201, 5, []), (201, 5, []), (201, 7, []), (201, 6, []), (201, 7, []), (201, 3, []), (0, 0, [18, 87, 89, 0, 90, 92, 97, 101, 104]), (4, 0, [19, 0, 84, 85, 86, 0]), (102, 16, [20, 24, 28, 32, 36, 40, 44, 48, 52, 56, 60, 64, 68, 72, 76, 80]), (3, 0, [0, 21, 23]), (1, 0, [22, 0]), (100, 120, []), (100, 5, []), (3, 0, [0, 25, 27]), (1, 0, [26, 0]), (100, 120, []), (100, 5, []), (3, 0, [0, 29, 31]), (1, 0, [30, 0]), (100, 120, []), (100, 5, []), (3, 0, [0, 33, 35]), (1, 0, [34, 0]), (100, 120, []), (100, 5, []), (3, 0, [0, 37, 39]), (1, 0, [38, 0]), (100, 120, []), (100, 5, []), (3, 0, [0, 41, 43]), (1, 0, [42, 0]), (100, 120, []), (100, 5, []), (3, 0, [0, 45, 47]), (1, 0, [46, 0]), (100, 120, []), (100, 5, []), (3, 0, [0, 49, 51]), (1, 0, [50, 0]), (100, 120, []), (100, 5, []), (3, 0, [0, 53, 55]), (1, 0, [54, 0]), (100, 120, []), (100, 5, []), (3, 0, [0, 57, 59]), (1, 0, [58, 0]), (100, 120, []), (100, 5, []), (3, 0, [0, 61, 63]), (1, 0, [62, 0]), (100, 120, []), (100, 5, []), (3, 0, [0, 65, 67]), (1, 0, [66, 0]), (100, 120, []), (100, 5, []), (3, 0, [0, 69, 71]), (1, 0, [70, 0]), (100, 120, []), (100, 5, []), (3, 0, [0, 73, 75]), (1, 0, [74, 0]), (100, 120, []), (100, 5, []), (3, 0, [0, 77, 79]), (1, 0, [78, 0]), (100, 120, []), (100, 5, []), (3, 0, [0, 81, 83]), (1, 0, [82, 0]), (100, 120, []), (100, 5, []), (100, 4, []), (101, 16, []), (100, 16, []), (1, 0, [88, 0]), (100, 64, []), (100, 26, []), (1, 0, [91, 0]), (100, 2192, []), (2, 0, [93, 94, 95, 0]), (100, 5, []), (100, 80, []), (1, 0, [96, 0]), (100, 11, []), (3, 0, [0, 98, 100]), (1, 0, [99, 0]), (100, 120, []), (100, 5, []), (5, 0, [102, 0, 0, 0]), (1, 0, [103, 0]), (100, 123, []), (6, 0, [105, 0, 170, 171, 173, 0, 0]), (102, 16, [106, 110, 114, 118, 122, 126, 130, 134, 138, 142, 146, 150, 154, 158, 162, 166]), (3, 0, [0, 107, 109]), (1, 0, [108, 0]), (100, 120, []), (100, 5, []), (3, 0, [0, 111, 113]), (1, 0, [112, 0]), (100, 120, []), (100, 5, []), (3, 0, [0, 115, 117]), (1, 0, [116, 0]), (100, 120, []), (100, 5, []), (3, 0, [0, 119, 121]), (1, 0, [120, 0]), (100, 120, []), (100, 5, []), (3, 0, [0, 123, 125]), (1, 0, [124, 0]), (100, 120, []), (100, 5, []), (3, 0, [0, 127, 129]), (1, 0, [128, 0]), (100, 120, []), (100, 5, []), (3, 0, [0, 131, 133]), (1, 0, [132, 0]), (100, 120, []), (100, 5, []), (3, 0, [0, 135, 137]), (1, 0, [136, 0]), (100, 120, []), (100, 5, []), (3, 0, [0, 139, 141]), (1, 0, [140, 0]), (100, 120, []), (100, 5, []), (3, 0, [0, 143, 145]), (1, 0, [144, 0]), (100, 120, []), (100, 5, []), (3, 0, [0, 147, 149]), (1, 0, [148, 0]), (100, 120, []), (100, 5, []), (3, 0, [0, 151, 153]), (1, 0, [152, 0]), (100, 120, []), (100, 5, []), (3, 0, [0, 155, 157]), (1, 0, [156, 0]), (100, 120, []), (100, 5, []), (3, 0, [0, 159, 161]), (1, 0, [160, 0]), (100, 120, []), (100, 5, []), (3, 0, [0, 163, 165]), (1, 0, [164, 0]), (100, 120, []), (100, 5, []), (3, 0, [0, 167, 169]), (1, 0, [168, 0]), (100, 120, []), (100, 5, []), (100, 16, []), (1, 0, [172, 0]), (100, 120, []), (1, 0, [174, 0]), (100, 7, []), (7, 0, [0, 176, 177, 178, 179, 180, 181, 0, 182, 0, 183, 184, 185, 0, 186, 187, 188, 0, 189, 190, 0, 0, 0, 0, 191]), (100, 33, []), (100, 33, []), (100, 3960, []), (100, 165, []), (101, 16, []), (100, 16, []), (100, 64, []), (100, 4, []), (100, 4, []), (100, 4, []), (100, 2560, []), (100, 80, []), (100, 5, []), (100, 2400, []), (100, 16, []), (100, 400, [])]
abbrev M_P_init : MethodName × ByteArray × Nat × Option FieldType := (⟨"PackShelf", "<init>", "()V"⟩, prog_1_method_1_code, 1, (Option.none : Option Jvm.ClassFile.FieldType))
abbrev M_Store_init : MethodName × ByteArray × Nat × Option FieldType := (⟨"PackShelf$Store", "<init>", "()V"⟩, prog_5_method_1_code, 2, (Option.none : Option Jvm.ClassFile.FieldType))
abbrev M_Thing_init : MethodName × ByteArray × Nat × Option FieldType := (⟨"PackShelf$Thing", "<init>", "()V"⟩, prog_7_method_1_code, 1, (Option.none : Option Jvm.ClassFile.FieldType))
abbrev M_Row_init : MethodName × ByteArray × Nat × Option FieldType := (⟨"PackShelf$Row", "<init>", "(I)V"⟩, prog_4_method_1_code, 2, (Option.none : Option Jvm.ClassFile.FieldType))
abbrev M_JArr_fill : MethodName × ByteArray × Nat × Option FieldType := (⟨"java/util/Arrays", "fill", "([II)V"⟩, prog_17_method_103_code, 4, (Option.none : Option Jvm.ClassFile.FieldType))
abbrev M_Sum_init : MethodName × ByteArray × Nat × Option FieldType := (⟨"PackShelf$Sum", "<init>", "()V"⟩, prog_6_method_1_code, 1, (Option.none : Option Jvm.ClassFile.FieldType))
abbrev M_Wri_init : MethodName × ByteArray × Nat × Option FieldType := (⟨"PackShelf$Writer", "<init>", "()V"⟩, prog_9_method_1_code, 1, (Option.none : Option Jvm.ClassFile.FieldType))
abbrev M_Rea_init : MethodName × ByteArray × Nat × Option FieldType := (⟨"PackShelf$Reader", "<init>", "()V"⟩, prog_3_method_1_code, 2, (Option.none : Option Jvm.ClassFile.FieldType))
abbrev M_P_type : MethodName × ByteArray × Nat × Option FieldType := (⟨"PackShelf", "type", "(JI)I"⟩, prog_1_method_2_code, 5, (Option.some Jvm.ClassFile.FieldType.int))
abbrev M_Row_put : MethodName × ByteArray × Nat × Option FieldType := (⟨"PackShelf$Row", "put", "(I)V"⟩, prog_4_method_4_code, 2, (Option.none : Option Jvm.ClassFile.FieldType))
abbrev M_P_blob : MethodName × ByteArray × Nat × Option FieldType := (⟨"PackShelf", "blob", "()I"⟩, prog_1_method_3_code, 2, (Option.some Jvm.ClassFile.FieldType.int))
abbrev M_Thing_begin : MethodName × ByteArray × Nat × Option FieldType := (⟨"PackShelf$Thing", "begin", "(I)V"⟩, prog_7_method_2_code, 2, (Option.none : Option Jvm.ClassFile.FieldType))
abbrev M_Row_clear : MethodName × ByteArray × Nat × Option FieldType := (⟨"PackShelf$Row", "clear", "()V"⟩, prog_4_method_2_code, 1, (Option.none : Option Jvm.ClassFile.FieldType))
abbrev M_Row_putPart : MethodName × ByteArray × Nat × Option FieldType := (⟨"PackShelf$Row", "putPart", "(LPackShelf$Row;II)Z"⟩, prog_4_method_10_code, 4, (Option.some Jvm.ClassFile.FieldType.boolean))
abbrev M_P_bringMade : MethodName × ByteArray × Nat × Option FieldType := (⟨"PackShelf", "bringMade", "()I"⟩, prog_1_method_25_code, 1, (Option.some Jvm.ClassFile.FieldType.int))
abbrev M_Sum_giveName : MethodName × ByteArray × Nat × Option FieldType := (⟨"PackShelf$Sum", "giveName", "(LPackShelf$Thing;)V"⟩, prog_6_method_3_code, 2, (Option.none : Option Jvm.ClassFile.FieldType))
abbrev M_Row_putText : MethodName × ByteArray × Nat × Option FieldType := (⟨"PackShelf$Row", "putText", "(Ljava/lang/String;)V"⟩, prog_4_method_5_code, 3, (Option.none : Option Jvm.ClassFile.FieldType))
abbrev M_JStr_length : MethodName × ByteArray × Nat × Option FieldType := (⟨"java/lang/String", "length", "()I"⟩, prog_13_method_54_code, 1, (Option.some Jvm.ClassFile.FieldType.int))
abbrev M_JStr_coder : MethodName × ByteArray × Nat × Option FieldType := (⟨"java/lang/String", "coder", "()B"⟩, prog_13_method_152_code, 1, (Option.some Jvm.ClassFile.FieldType.byte))
abbrev M_JStr_charAt : MethodName × ByteArray × Nat × Option FieldType := (⟨"java/lang/String", "charAt", "(I)C"⟩, prog_13_method_56_code, 2, (Option.some Jvm.ClassFile.FieldType.char))
abbrev M_JStr_isLatin1 : MethodName × ByteArray × Nat × Option FieldType := (⟨"java/lang/String", "isLatin1", "()Z"⟩, prog_13_method_154_code, 1, (Option.some Jvm.ClassFile.FieldType.boolean))
abbrev M_JLat_charAt : MethodName × ByteArray × Nat × Option FieldType := (⟨"java/lang/StringLatin1", "charAt", "([BI)C"⟩, prog_14_method_2_code, 2, (Option.some Jvm.ClassFile.FieldType.char))
abbrev M_Row_putDecimal : MethodName × ByteArray × Nat × Option FieldType := (⟨"PackShelf$Row", "putDecimal", "(I)V"⟩, prog_4_method_6_code, 3, (Option.none : Option Jvm.ClassFile.FieldType))
abbrev M_Sum_begin : MethodName × ByteArray × Nat × Option FieldType := (⟨"PackShelf$Sum", "begin", "()V"⟩, prog_6_method_4_code, 1, (Option.none : Option Jvm.ClassFile.FieldType))
abbrev M_Sum_takeRow : MethodName × ByteArray × Nat × Option FieldType := (⟨"PackShelf$Sum", "takeRow", "(LPackShelf$Row;I)V"⟩, prog_6_method_5_code, 4, (Option.none : Option Jvm.ClassFile.FieldType))
abbrev M_Sum_take : MethodName × ByteArray × Nat × Option FieldType := (⟨"PackShelf$Sum", "take", "(I)V"⟩, prog_6_method_6_code, 3, (Option.none : Option Jvm.ClassFile.FieldType))
abbrev M_Sum_stir : MethodName × ByteArray × Nat × Option FieldType := (⟨"PackShelf$Sum", "stir", "()V"⟩, prog_6_method_8_code, 8, (Option.none : Option Jvm.ClassFile.FieldType))
abbrev M_Sum_turned : MethodName × ByteArray × Nat × Option FieldType := (⟨"PackShelf$Sum", "turned", "(II)I"⟩, prog_6_method_10_code, 2, (Option.some Jvm.ClassFile.FieldType.int))
abbrev M_Sum_mixed : MethodName × ByteArray × Nat × Option FieldType := (⟨"PackShelf$Sum", "mixed", "(IIII)I"⟩, prog_6_method_9_code, 4, (Option.some Jvm.ClassFile.FieldType.int))
abbrev M_Sum_end : MethodName × ByteArray × Nat × Option FieldType := (⟨"PackShelf$Sum", "end", "()V"⟩, prog_6_method_7_code, 3, (Option.none : Option Jvm.ClassFile.FieldType))
abbrev M_Store_bring : MethodName × ByteArray × Nat × Option FieldType := (⟨"PackShelf$Store", "bring", "(LPackShelf$Thing;)I"⟩, prog_5_method_5_code, 3, (Option.some Jvm.ClassFile.FieldType.int))
abbrev M_Store_numberOf : MethodName × ByteArray × Nat × Option FieldType := (⟨"PackShelf$Store", "numberOf", "(LPackShelf$Thing;)I"⟩, prog_5_method_4_code, 3, (Option.some Jvm.ClassFile.FieldType.int))
abbrev M_Thing_isNamedAs : MethodName × ByteArray × Nat × Option FieldType := (⟨"PackShelf$Thing", "isNamedAs", "(LPackShelf$Thing;)Z"⟩, prog_7_method_4_code, 3, (Option.some Jvm.ClassFile.FieldType.boolean))
abbrev M_Thing_become : MethodName × ByteArray × Nat × Option FieldType := (⟨"PackShelf$Thing", "become", "(LPackShelf$Thing;)V"⟩, prog_7_method_3_code, 2, (Option.none : Option Jvm.ClassFile.FieldType))
abbrev M_P_entry : MethodName × ByteArray × Nat × Option FieldType := (⟨"PackShelf", "entry", "(II)I"⟩, prog_1_method_4_code, 4, (Option.some Jvm.ClassFile.FieldType.int))
abbrev M_Store_kindOf : MethodName × ByteArray × Nat × Option FieldType := (⟨"PackShelf$Store", "kindOf", "(I)I"⟩, prog_5_method_3_code, 2, (Option.some Jvm.ClassFile.FieldType.int))
abbrev M_Store_has : MethodName × ByteArray × Nat × Option FieldType := (⟨"PackShelf$Store", "has", "(I)Z"⟩, prog_5_method_2_code, 2, (Option.some Jvm.ClassFile.FieldType.boolean))
abbrev M_P_tree : MethodName × ByteArray × Nat × Option FieldType := (⟨"PackShelf", "tree", "()I"⟩, prog_1_method_5_code, 2, (Option.some Jvm.ClassFile.FieldType.int))
abbrev M_P_putEntry : MethodName × ByteArray × Nat × Option FieldType := (⟨"PackShelf", "putEntry", "(ILPackShelf$Thing;)V"⟩, prog_1_method_26_code, 3, (Option.none : Option Jvm.ClassFile.FieldType))
abbrev M_Row_putInts : MethodName × ByteArray × Nat × Option FieldType := (⟨"PackShelf$Row", "putInts", "([I)V"⟩, prog_4_method_9_code, 3, (Option.none : Option Jvm.ClassFile.FieldType))
abbrev M_Row_putHighFirst : MethodName × ByteArray × Nat × Option FieldType := (⟨"PackShelf$Row", "putHighFirst", "(II)V"⟩, prog_4_method_7_code, 4, (Option.none : Option Jvm.ClassFile.FieldType))
abbrev M_P_dropDraft : MethodName × ByteArray × Nat × Option FieldType := (⟨"PackShelf", "dropDraft", "()V"⟩, prog_1_method_28_code, 1, (Option.none : Option Jvm.ClassFile.FieldType))
abbrev M_P_commit : MethodName × ByteArray × Nat × Option FieldType := (⟨"PackShelf", "commit", "(III)I"⟩, prog_1_method_6_code, 4, (Option.some Jvm.ClassFile.FieldType.int))
abbrev M_P_putNamed : MethodName × ByteArray × Nat × Option FieldType := (⟨"PackShelf", "putNamed", "(Ljava/lang/String;I)V"⟩, prog_1_method_27_code, 3, (Option.none : Option Jvm.ClassFile.FieldType))
abbrev M_P_branch : MethodName × ByteArray × Nat × Option FieldType := (⟨"PackShelf", "branch", "(II)Z"⟩, prog_1_method_7_code, 3, (Option.some Jvm.ClassFile.FieldType.boolean))
abbrev M_P_held : MethodName × ByteArray × Nat × Option FieldType := (⟨"PackShelf", "held", "(I)I"⟩, prog_1_method_8_code, 2, (Option.some Jvm.ClassFile.FieldType.int))
abbrev M_P_sweep : MethodName × ByteArray × Nat × Option FieldType := (⟨"PackShelf", "sweep", "()I"⟩, prog_1_method_9_code, 1, (Option.some Jvm.ClassFile.FieldType.int))
abbrev M_Store_dropUnreached : MethodName × ByteArray × Nat × Option FieldType := (⟨"PackShelf$Store", "dropUnreached", "()I"⟩, prog_5_method_8_code, 3, (Option.some Jvm.ClassFile.FieldType.int))
abbrev M_Store_markReached : MethodName × ByteArray × Nat × Option FieldType := (⟨"PackShelf$Store", "markReached", "()V"⟩, prog_5_method_6_code, 4, (Option.none : Option Jvm.ClassFile.FieldType))
abbrev M_Store_reach : MethodName × ByteArray × Nat × Option FieldType := (⟨"PackShelf$Store", "reach", "(I)V"⟩, prog_5_method_7_code, 2, (Option.none : Option Jvm.ClassFile.FieldType))
abbrev M_Thing_refersTo : MethodName × ByteArray × Nat × Option FieldType := (⟨"PackShelf$Thing", "refersTo", "(LPackShelf$Thing;)Z"⟩, prog_7_method_5_code, 2, (Option.some Jvm.ClassFile.FieldType.boolean))
abbrev M_Row_hasIntsAnywhere : MethodName × ByteArray × Nat × Option FieldType := (⟨"PackShelf$Row", "hasIntsAnywhere", "([I)Z"⟩, prog_4_method_13_code, 3, (Option.some Jvm.ClassFile.FieldType.boolean))
abbrev M_Row_hasInts : MethodName × ByteArray × Nat × Option FieldType := (⟨"PackShelf$Row", "hasInts", "(I[I)Z"⟩, prog_4_method_12_code, 4, (Option.some Jvm.ClassFile.FieldType.boolean))
abbrev M_Row_intAt : MethodName × ByteArray × Nat × Option FieldType := (⟨"PackShelf$Row", "intAt", "(I)I"⟩, prog_4_method_11_code, 2, (Option.some Jvm.ClassFile.FieldType.int))
abbrev M_Store_moveDown : MethodName × ByteArray × Nat × Option FieldType := (⟨"PackShelf$Store", "moveDown", "(II)V"⟩, prog_5_method_9_code, 4, (Option.none : Option Jvm.ClassFile.FieldType))
abbrev M_P_things : MethodName × ByteArray × Nat × Option FieldType := (⟨"PackShelf", "things", "()I"⟩, prog_1_method_10_code, 1, (Option.some Jvm.ClassFile.FieldType.int))
abbrev M_P_kind : MethodName × ByteArray × Nat × Option FieldType := (⟨"PackShelf", "kind", "(I)I"⟩, prog_1_method_11_code, 2, (Option.some Jvm.ClassFile.FieldType.int))
abbrev M_P_size : MethodName × ByteArray × Nat × Option FieldType := (⟨"PackShelf", "size", "(I)I"⟩, prog_1_method_12_code, 2, (Option.some Jvm.ClassFile.FieldType.int))
abbrev M_P_byteOf : MethodName × ByteArray × Nat × Option FieldType := (⟨"PackShelf", "byteOf", "(II)I"⟩, prog_1_method_13_code, 3, (Option.some Jvm.ClassFile.FieldType.int))
abbrev M_Row_at : MethodName × ByteArray × Nat × Option FieldType := (⟨"PackShelf$Row", "at", "(I)I"⟩, prog_4_method_3_code, 2, (Option.some Jvm.ClassFile.FieldType.int))
abbrev M_P_name : MethodName × ByteArray × Nat × Option FieldType := (⟨"PackShelf", "name", "(II)I"⟩, prog_1_method_14_code, 3, (Option.some Jvm.ClassFile.FieldType.int))
abbrev M_P_reached : MethodName × ByteArray × Nat × Option FieldType := (⟨"PackShelf", "reached", "(I)Z"⟩, prog_1_method_15_code, 2, (Option.some Jvm.ClassFile.FieldType.boolean))
abbrev M_P_pack : MethodName × ByteArray × Nat × Option FieldType := (⟨"PackShelf", "pack", "()I"⟩, prog_1_method_16_code, 1, (Option.some Jvm.ClassFile.FieldType.int))
abbrev M_Wri_writeAll : MethodName × ByteArray × Nat × Option FieldType := (⟨"PackShelf$Writer", "writeAll", "(LPackShelf$Store;LPackShelf$Row;)V"⟩, prog_9_method_2_code, 5, (Option.none : Option Jvm.ClassFile.FieldType))
abbrev M_Wri_writeThing : MethodName × ByteArray × Nat × Option FieldType := (⟨"PackShelf$Writer", "writeThing", "(LPackShelf$Thing;LPackShelf$Row;)V"⟩, prog_9_method_3_code, 4, (Option.none : Option Jvm.ClassFile.FieldType))
abbrev M_Wri_isShorterAsDifference : MethodName × ByteArray × Nat × Option FieldType := (⟨"PackShelf$Writer", "isShorterAsDifference", "(LPackShelf$Thing;)Z"⟩, prog_9_method_4_code, 2, (Option.some Jvm.ClassFile.FieldType.boolean))
abbrev M_Diff_write : MethodName × ByteArray × Nat × Option FieldType := (⟨"PackShelf$Differences", "write", "(LPackShelf$Row;LPackShelf$Row;LPackShelf$Row;)V"⟩, prog_2_method_2_code, 7, (Option.none : Option Jvm.ClassFile.FieldType))
abbrev M_Diff_bestPlace : MethodName × ByteArray × Nat × Option FieldType := (⟨"PackShelf$Differences", "bestPlace", "(LPackShelf$Row;LPackShelf$Row;I)I"⟩, prog_2_method_4_code, 7, (Option.some Jvm.ClassFile.FieldType.int))
abbrev M_Diff_alike : MethodName × ByteArray × Nat × Option FieldType := (⟨"PackShelf$Differences", "alike", "(LPackShelf$Row;ILPackShelf$Row;I)I"⟩, prog_2_method_5_code, 5, (Option.some Jvm.ClassFile.FieldType.int))
abbrev M_Diff_putNew : MethodName × ByteArray × Nat × Option FieldType := (⟨"PackShelf$Differences", "putNew", "(LPackShelf$Row;IILPackShelf$Row;)V"⟩, prog_2_method_3_code, 4, (Option.none : Option Jvm.ClassFile.FieldType))
abbrev M_Wri_putMark : MethodName × ByteArray × Nat × Option FieldType := (⟨"PackShelf$Writer", "putMark", "(IILPackShelf$Row;)V"⟩, prog_9_method_5_code, 4, (Option.none : Option Jvm.ClassFile.FieldType))
abbrev M_Wri_putDistance : MethodName × ByteArray × Nat × Option FieldType := (⟨"PackShelf$Writer", "putDistance", "(ILPackShelf$Row;)V"⟩, prog_9_method_6_code, 2, (Option.none : Option Jvm.ClassFile.FieldType))
abbrev M_Wri_putWrapped : MethodName × ByteArray × Nat × Option FieldType := (⟨"PackShelf$Writer", "putWrapped", "(LPackShelf$Row;LPackShelf$Row;)V"⟩, prog_9_method_7_code, 2, (Option.none : Option Jvm.ClassFile.FieldType))
abbrev M_Wrap_putHead : MethodName × ByteArray × Nat × Option FieldType := (⟨"PackShelf$Wrapping", "putHead", "(ILPackShelf$Row;)V"⟩, prog_8_method_2_code, 2, (Option.none : Option Jvm.ClassFile.FieldType))
abbrev M_Row_putLowFirst : MethodName × ByteArray × Nat × Option FieldType := (⟨"PackShelf$Row", "putLowFirst", "(II)V"⟩, prog_4_method_8_code, 4, (Option.none : Option Jvm.ClassFile.FieldType))
abbrev M_Wrap_putTail : MethodName × ByteArray × Nat × Option FieldType := (⟨"PackShelf$Wrapping", "putTail", "(LPackShelf$Row;LPackShelf$Row;)V"⟩, prog_8_method_3_code, 5, (Option.none : Option Jvm.ClassFile.FieldType))
abbrev M_Sum_ofRow : MethodName × ByteArray × Nat × Option FieldType := (⟨"PackShelf$Sum", "ofRow", "(LPackShelf$Row;I)V"⟩, prog_6_method_2_code, 3, (Option.none : Option Jvm.ClassFile.FieldType))
abbrev M_P_packed : MethodName × ByteArray × Nat × Option FieldType := (⟨"PackShelf", "packed", "()I"⟩, prog_1_method_17_code, 1, (Option.some Jvm.ClassFile.FieldType.int))
abbrev M_P_packByte : MethodName × ByteArray × Nat × Option FieldType := (⟨"PackShelf", "packByte", "(I)I"⟩, prog_1_method_18_code, 2, (Option.some Jvm.ClassFile.FieldType.int))
abbrev M_P_alter : MethodName × ByteArray × Nat × Option FieldType := (⟨"PackShelf", "alter", "(II)Z"⟩, prog_1_method_19_code, 3, (Option.some Jvm.ClassFile.FieldType.boolean))
abbrev M_P_cut : MethodName × ByteArray × Nat × Option FieldType := (⟨"PackShelf", "cut", "(I)Z"⟩, prog_1_method_20_code, 2, (Option.some Jvm.ClassFile.FieldType.boolean))
abbrev M_P_seal : MethodName × ByteArray × Nat × Option FieldType := (⟨"PackShelf", "seal", "()Z"⟩, prog_1_method_21_code, 1, (Option.some Jvm.ClassFile.FieldType.boolean))
abbrev M_P_unpack : MethodName × ByteArray × Nat × Option FieldType := (⟨"PackShelf", "unpack", "()I"⟩, prog_1_method_22_code, 3, (Option.some Jvm.ClassFile.FieldType.int))
abbrev M_P_lookAtEnds : MethodName × ByteArray × Nat × Option FieldType := (⟨"PackShelf", "lookAtEnds", "()I"⟩, prog_1_method_23_code, 3, (Option.some Jvm.ClassFile.FieldType.int))
abbrev M_Rea_readThings : MethodName × ByteArray × Nat × Option FieldType := (⟨"PackShelf$Reader", "readThings", "(LPackShelf$Row;)I"⟩, prog_3_method_2_code, 4, (Option.some Jvm.ClassFile.FieldType.int))
abbrev M_Rea_readThing : MethodName × ByteArray × Nat × Option FieldType := (⟨"PackShelf$Reader", "readThing", "(LPackShelf$Row;LPackShelf$Thing;)I"⟩, prog_3_method_5_code, 9, (Option.some Jvm.ClassFile.FieldType.int))
abbrev M_Rea_nextByte : MethodName × ByteArray × Nat × Option FieldType := (⟨"PackShelf$Reader", "nextByte", "(LPackShelf$Row;)I"⟩, prog_3_method_8_code, 2, (Option.some Jvm.ClassFile.FieldType.int))
abbrev M_Rea_readNumber : MethodName × ByteArray × Nat × Option FieldType := (⟨"PackShelf$Reader", "readNumber", "(LPackShelf$Row;I)I"⟩, prog_3_method_9_code, 8, (Option.some Jvm.ClassFile.FieldType.int))
abbrev M_Rea_readOther : MethodName × ByteArray × Nat × Option FieldType := (⟨"PackShelf$Reader", "readOther", "(LPackShelf$Row;)I"⟩, prog_3_method_10_code, 4, (Option.some Jvm.ClassFile.FieldType.int))
abbrev M_Rea_readWrapped : MethodName × ByteArray × Nat × Option FieldType := (⟨"PackShelf$Reader", "readWrapped", "(LPackShelf$Row;I)I"⟩, prog_3_method_11_code, 6, (Option.some Jvm.ClassFile.FieldType.int))
abbrev M_Rea_readDue : MethodName × ByteArray × Nat × Option FieldType := (⟨"PackShelf$Reader", "readDue", "(LPackShelf$Row;)I"⟩, prog_3_method_12_code, 4, (Option.some Jvm.ClassFile.FieldType.int))
abbrev M_Rea_takeDifference : MethodName × ByteArray × Nat × Option FieldType := (⟨"PackShelf$Reader", "takeDifference", "(LPackShelf$Thing;LPackShelf$Thing;)I"⟩, prog_3_method_7_code, 3, (Option.some Jvm.ClassFile.FieldType.int))
abbrev M_Diff_carryOut : MethodName × ByteArray × Nat × Option FieldType := (⟨"PackShelf$Differences", "carryOut", "(LPackShelf$Row;LPackShelf$Row;LPackShelf$Row;)Z"⟩, prog_2_method_6_code, 6, (Option.some Jvm.ClassFile.FieldType.boolean))
abbrev M_Rea_takeWhole : MethodName × ByteArray × Nat × Option FieldType := (⟨"PackShelf$Reader", "takeWhole", "(ILPackShelf$Thing;)I"⟩, prog_3_method_6_code, 3, (Option.some Jvm.ClassFile.FieldType.int))
abbrev M_Rea_countNew : MethodName × ByteArray × Nat × Option FieldType := (⟨"PackShelf$Reader", "countNew", "(LPackShelf$Store;)I"⟩, prog_3_method_3_code, 4, (Option.some Jvm.ClassFile.FieldType.int))
abbrev M_Rea_isReadBefore : MethodName × ByteArray × Nat × Option FieldType := (⟨"PackShelf$Reader", "isReadBefore", "(I)Z"⟩, prog_3_method_4_code, 3, (Option.some Jvm.ClassFile.FieldType.boolean))
abbrev M_P_bringRead : MethodName × ByteArray × Nat × Option FieldType := (⟨"PackShelf", "bringRead", "()I"⟩, prog_1_method_24_code, 3, (Option.some Jvm.ClassFile.FieldType.int))
abbrev M_Mo_init : MethodName × ByteArray × Nat × Option FieldType := (⟨"PackShelfModel", "<init>", "()V"⟩, prog_11_method_1_code, 1, (Option.none : Option Jvm.ClassFile.FieldType))
abbrev M_Mo_type : MethodName × ByteArray × Nat × Option FieldType := (⟨"PackShelfModel", "type", "(JI)I"⟩, prog_11_method_18_code, 5, (Option.some Jvm.ClassFile.FieldType.int))
abbrev M_Mo_blob : MethodName × ByteArray × Nat × Option FieldType := (⟨"PackShelfModel", "blob", "()I"⟩, prog_11_method_19_code, 2, (Option.some Jvm.ClassFile.FieldType.int))
abbrev M_Mo_begin : MethodName × ByteArray × Nat × Option FieldType := (⟨"PackShelfModel", "begin", "(I)V"⟩, prog_11_method_13_code, 2, (Option.none : Option Jvm.ClassFile.FieldType))
abbrev M_Mo_add : MethodName × ByteArray × Nat × Option FieldType := (⟨"PackShelfModel", "add", "(I)V"⟩, prog_11_method_14_code, 2, (Option.none : Option Jvm.ClassFile.FieldType))
abbrev M_Mo_come : MethodName × ByteArray × Nat × Option FieldType := (⟨"PackShelfModel", "come", "()I"⟩, prog_11_method_12_code, 2, (Option.some Jvm.ClassFile.FieldType.int))
abbrev M_Mo_call : MethodName × ByteArray × Nat × Option FieldType := (⟨"PackShelfModel", "call", "(I)V"⟩, prog_11_method_8_code, 3, (Option.none : Option Jvm.ClassFile.FieldType))
abbrev M_Mo_put : MethodName × ByteArray × Nat × Option FieldType := (⟨"PackShelfModel", "put", "(I)V"⟩, prog_11_method_2_code, 2, (Option.none : Option Jvm.ClassFile.FieldType))
abbrev M_Mo_putDecimal : MethodName × ByteArray × Nat × Option FieldType := (⟨"PackShelfModel", "putDecimal", "(I)V"⟩, prog_11_method_7_code, 4, (Option.none : Option Jvm.ClassFile.FieldType))
abbrev M_Mo_sum : MethodName × ByteArray × Nat × Option FieldType := (⟨"PackShelfModel", "sum", "()V"⟩, prog_11_method_4_code, 3, (Option.none : Option Jvm.ClassFile.FieldType))
abbrev M_Mo_block : MethodName × ByteArray × Nat × Option FieldType := (⟨"PackShelfModel", "block", "(I)V"⟩, prog_11_method_6_code, 9, (Option.none : Option Jvm.ClassFile.FieldType))
abbrev M_Mo_turned : MethodName × ByteArray × Nat × Option FieldType := (⟨"PackShelfModel", "turned", "(II)I"⟩, prog_11_method_3_code, 2, (Option.some Jvm.ClassFile.FieldType.int))
abbrev M_Mo_mixed : MethodName × ByteArray × Nat × Option FieldType := (⟨"PackShelfModel", "mixed", "(IIII)I"⟩, prog_11_method_5_code, 4, (Option.some Jvm.ClassFile.FieldType.int))
abbrev M_Mo_sameAs : MethodName × ByteArray × Nat × Option FieldType := (⟨"PackShelfModel", "sameAs", "(I)I"⟩, prog_11_method_11_code, 6, (Option.some Jvm.ClassFile.FieldType.int))
abbrev M_Mo_copy : MethodName × ByteArray × Nat × Option FieldType := (⟨"PackShelfModel", "copy", "(II)V"⟩, prog_11_method_10_code, 4, (Option.none : Option Jvm.ClassFile.FieldType))
abbrev M_Mo_entry : MethodName × ByteArray × Nat × Option FieldType := (⟨"PackShelfModel", "entry", "(II)I"⟩, prog_11_method_20_code, 5, (Option.some Jvm.ClassFile.FieldType.int))
abbrev M_Mo_isKind : MethodName × ByteArray × Nat × Option FieldType := (⟨"PackShelfModel", "isKind", "(II)Z"⟩, prog_11_method_17_code, 3, (Option.some Jvm.ClassFile.FieldType.boolean))
abbrev M_Mo_isThing : MethodName × ByteArray × Nat × Option FieldType := (⟨"PackShelfModel", "isThing", "(I)Z"⟩, prog_11_method_16_code, 2, (Option.some Jvm.ClassFile.FieldType.boolean))
abbrev M_Mo_tree : MethodName × ByteArray × Nat × Option FieldType := (⟨"PackShelfModel", "tree", "()I"⟩, prog_11_method_22_code, 3, (Option.some Jvm.ClassFile.FieldType.int))
abbrev M_Mo_addEntry : MethodName × ByteArray × Nat × Option FieldType := (⟨"PackShelfModel", "addEntry", "(I)V"⟩, prog_11_method_21_code, 3, (Option.none : Option Jvm.ClassFile.FieldType))
abbrev M_Mo_addName : MethodName × ByteArray × Nat × Option FieldType := (⟨"PackShelfModel", "addName", "(I)V"⟩, prog_11_method_15_code, 3, (Option.none : Option Jvm.ClassFile.FieldType))
abbrev M_Mo_nameByte : MethodName × ByteArray × Nat × Option FieldType := (⟨"PackShelfModel", "nameByte", "(II)I"⟩, prog_11_method_9_code, 3, (Option.some Jvm.ClassFile.FieldType.int))
abbrev M_Mo_commit : MethodName × ByteArray × Nat × Option FieldType := (⟨"PackShelfModel", "commit", "(III)I"⟩, prog_11_method_23_code, 6, (Option.some Jvm.ClassFile.FieldType.int))
abbrev M_Mo_branch : MethodName × ByteArray × Nat × Option FieldType := (⟨"PackShelfModel", "branch", "(II)Z"⟩, prog_11_method_24_code, 3, (Option.some Jvm.ClassFile.FieldType.boolean))
abbrev M_Mo_held : MethodName × ByteArray × Nat × Option FieldType := (⟨"PackShelfModel", "held", "(I)I"⟩, prog_11_method_25_code, 2, (Option.some Jvm.ClassFile.FieldType.int))
abbrev M_Mo_sweep : MethodName × ByteArray × Nat × Option FieldType := (⟨"PackShelfModel", "sweep", "()I"⟩, prog_11_method_28_code, 3, (Option.some Jvm.ClassFile.FieldType.int))
abbrev M_Mo_spread : MethodName × ByteArray × Nat × Option FieldType := (⟨"PackShelfModel", "spread", "()V"⟩, prog_11_method_27_code, 4, (Option.none : Option Jvm.ClassFile.FieldType))
abbrev M_Mo_refers : MethodName × ByteArray × Nat × Option FieldType := (⟨"PackShelfModel", "refers", "(II)Z"⟩, prog_11_method_26_code, 7, (Option.some Jvm.ClassFile.FieldType.boolean))
abbrev M_Mo_things : MethodName × ByteArray × Nat × Option FieldType := (⟨"PackShelfModel", "things", "()I"⟩, prog_11_method_29_code, 1, (Option.some Jvm.ClassFile.FieldType.int))
abbrev M_Mo_kind : MethodName × ByteArray × Nat × Option FieldType := (⟨"PackShelfModel", "kind", "(I)I"⟩, prog_11_method_30_code, 2, (Option.some Jvm.ClassFile.FieldType.int))
abbrev M_Mo_size : MethodName × ByteArray × Nat × Option FieldType := (⟨"PackShelfModel", "size", "(I)I"⟩, prog_11_method_31_code, 2, (Option.some Jvm.ClassFile.FieldType.int))
abbrev M_Mo_byteOf : MethodName × ByteArray × Nat × Option FieldType := (⟨"PackShelfModel", "byteOf", "(II)I"⟩, prog_11_method_32_code, 3, (Option.some Jvm.ClassFile.FieldType.int))
abbrev M_Mo_name : MethodName × ByteArray × Nat × Option FieldType := (⟨"PackShelfModel", "name", "(II)I"⟩, prog_11_method_33_code, 3, (Option.some Jvm.ClassFile.FieldType.int))
abbrev M_Mo_reached : MethodName × ByteArray × Nat × Option FieldType := (⟨"PackShelfModel", "reached", "(I)Z"⟩, prog_11_method_34_code, 2, (Option.some Jvm.ClassFile.FieldType.boolean))
abbrev M_Mo_pack : MethodName × ByteArray × Nat × Option FieldType := (⟨"PackShelfModel", "pack", "()I"⟩, prog_11_method_40_code, 9, (Option.some Jvm.ClassFile.FieldType.int))
abbrev M_Mo_write : MethodName × ByteArray × Nat × Option FieldType := (⟨"PackShelfModel", "write", "(I)V"⟩, prog_11_method_35_code, 2, (Option.none : Option Jvm.ClassFile.FieldType))
abbrev M_Mo_differ : MethodName × ByteArray × Nat × Option FieldType := (⟨"PackShelfModel", "differ", "(II)I"⟩, prog_11_method_37_code, 10, (Option.some Jvm.ClassFile.FieldType.int))
abbrev M_Mo_alike : MethodName × ByteArray × Nat × Option FieldType := (⟨"PackShelfModel", "alike", "(IIII)I"⟩, prog_11_method_36_code, 6, (Option.some Jvm.ClassFile.FieldType.int))
abbrev M_Mo_writeMark : MethodName × ByteArray × Nat × Option FieldType := (⟨"PackShelfModel", "writeMark", "(II)V"⟩, prog_11_method_39_code, 3, (Option.none : Option Jvm.ClassFile.FieldType))
abbrev M_Mo_writeDistance : MethodName × ByteArray × Nat × Option FieldType := (⟨"PackShelfModel", "writeDistance", "(I)V"⟩, prog_11_method_41_code, 2, (Option.none : Option Jvm.ClassFile.FieldType))
abbrev M_Mo_writeWrapped : MethodName × ByteArray × Nat × Option FieldType := (⟨"PackShelfModel", "writeWrapped", "(I)V"⟩, prog_11_method_38_code, 5, (Option.none : Option Jvm.ClassFile.FieldType))
abbrev M_Mo_sealPack : MethodName × ByteArray × Nat × Option FieldType := (⟨"PackShelfModel", "sealPack", "()V"⟩, prog_11_method_42_code, 2, (Option.none : Option Jvm.ClassFile.FieldType))
abbrev M_Mo_packed : MethodName × ByteArray × Nat × Option FieldType := (⟨"PackShelfModel", "packed", "()I"⟩, prog_11_method_43_code, 1, (Option.some Jvm.ClassFile.FieldType.int))
abbrev M_Mo_packByte : MethodName × ByteArray × Nat × Option FieldType := (⟨"PackShelfModel", "packByte", "(I)I"⟩, prog_11_method_44_code, 2, (Option.some Jvm.ClassFile.FieldType.int))
abbrev M_Mo_alter : MethodName × ByteArray × Nat × Option FieldType := (⟨"PackShelfModel", "alter", "(II)Z"⟩, prog_11_method_45_code, 3, (Option.some Jvm.ClassFile.FieldType.boolean))
abbrev M_Mo_cut : MethodName × ByteArray × Nat × Option FieldType := (⟨"PackShelfModel", "cut", "(I)Z"⟩, prog_11_method_46_code, 2, (Option.some Jvm.ClassFile.FieldType.boolean))
abbrev M_Mo_seal : MethodName × ByteArray × Nat × Option FieldType := (⟨"PackShelfModel", "seal", "()Z"⟩, prog_11_method_47_code, 1, (Option.some Jvm.ClassFile.FieldType.boolean))
abbrev M_Mo_unpack : MethodName × ByteArray × Nat × Option FieldType := (⟨"PackShelfModel", "unpack", "()I"⟩, prog_11_method_56_code, 3, (Option.some Jvm.ClassFile.FieldType.int))
abbrev M_Mo_begins : MethodName × ByteArray × Nat × Option FieldType := (⟨"PackShelfModel", "begins", "()Z"⟩, prog_11_method_51_code, 1, (Option.some Jvm.ClassFile.FieldType.boolean))
abbrev M_Mo_isSealed : MethodName × ByteArray × Nat × Option FieldType := (⟨"PackShelfModel", "isSealed", "()Z"⟩, prog_11_method_50_code, 3, (Option.some Jvm.ClassFile.FieldType.boolean))
abbrev M_Mo_readThing : MethodName × ByteArray × Nat × Option FieldType := (⟨"PackShelfModel", "readThing", "(I)V"⟩, prog_11_method_55_code, 9, (Option.none : Option Jvm.ClassFile.FieldType))
abbrev M_Mo_next : MethodName × ByteArray × Nat × Option FieldType := (⟨"PackShelfModel", "next", "()I"⟩, prog_11_method_48_code, 1, (Option.some Jvm.ClassFile.FieldType.int))
abbrev M_Mo_readSize : MethodName × ByteArray × Nat × Option FieldType := (⟨"PackShelfModel", "readSize", "(I)I"⟩, prog_11_method_52_code, 6, (Option.some Jvm.ClassFile.FieldType.int))
abbrev M_Mo_readWrapped : MethodName × ByteArray × Nat × Option FieldType := (⟨"PackShelfModel", "readWrapped", "(I)V"⟩, prog_11_method_53_code, 5, (Option.none : Option Jvm.ClassFile.FieldType))
abbrev M_Mo_expect : MethodName × ByteArray × Nat × Option FieldType := (⟨"PackShelfModel", "expect", "(I)V"⟩, prog_11_method_49_code, 3, (Option.none : Option Jvm.ClassFile.FieldType))
abbrev M_Mo_carryOut : MethodName × ByteArray × Nat × Option FieldType := (⟨"PackShelfModel", "carryOut", "(III)V"⟩, prog_11_method_54_code, 11, (Option.none : Option Jvm.ClassFile.FieldType))
end
section

abbrev sk_C : Type := (Nat × List Int32) ⊕ (Nat × List (Option Nat)) ⊕ (Nat × List Value)
abbrev sk_H : Type := List sk_C
abbrev sk_P : Type := sk_H → Nat → List (Nat × Value) → List Value → Nat → Nat → Prop
abbrev sk_M : Type := MethodName × ByteArray × Nat × Option FieldType
def sk_dum : sk_C := .inr (.inr (999, []))
def sk_v (ad : Nat → Nat) (v : Value) : Value := match v with
  | .ref i => .ref (ad i)
  | .int x => .int x
  | .long x => .long x
  | .float x => .float x
  | .double x => .double x
  | .null => .null
  | .retAddr x => .retAddr x
def sk_c (tc : Nat → ClassId) (ad : Nat → Nat) (c : sk_C) : va_E := match c with
  | .inl a => .inl (tc a.1, (a.2.length, .inl (fun j => a.2.getD j 0)))
  | .inr (.inl a) => .inl (tc a.1, (a.2.length, .inr (.inr (.inr (.inr (fun j => (a.2.getD j none).map ad))))))
  | .inr (.inr o) => .inr (o.1, o.2.map (sk_v ad))
def sk_w (tc : Nat → ClassId) (ad : Nat → Nat) (w : sk_H) : va_W := (w.drop sk_k).mapIdx (fun i c => (ad (i + sk_k), sk_c tc ad c))
def sk_l (ad : Nat → Nat) (lv : List (Nat × Value)) : List (Nat × Value) := lv.map (fun q => (q.1, sk_v ad q.2))
def sk_oV (n : Nat) (v : Value) : Prop := ∀ i, v = .ref i → i < n
def sk_oC (n : Nat) (c : sk_C) : Prop := match c with
  | .inl _ => True
  | .inr (.inl a) => ∀ i, some i ∈ a.2 → i < n
  | .inr (.inr o) => ∀ v ∈ o.2, sk_oV n v
def sk_oW (w : sk_H) : Prop := (∀ i, i < sk_k → w[i]? = some sk_dum) ∧ ∀ c ∈ w, sk_oC w.length c
def sk_t (tc : Nat → ClassId) : List (ClassId × FieldType) := sk_tys.mapIdx (fun t ty => (tc t, ty))
def sk_R (d kc ks : Nat) : Room := { frames := d, cells := kc, slots := ks, locals := 32 * d }
theorem sk_oV_int {n : Nat} {x : Int32} : sk_oV n (.int x) := fun i h => by cases h
theorem sk_oV_long {n : Nat} {x : Int64} : sk_oV n (.long x) := fun i h => by cases h
theorem sk_oV_null {n : Nat} : sk_oV n .null := fun i h => by cases h
theorem sk_oV_ref {n i : Nat} (h : i < n) : sk_oV n (.ref i) := fun j e => by cases e; exact h
theorem sk_oV_mono {n n' : Nat} {v : Value} (h : sk_oV n v) (hn : n ≤ n') : sk_oV n' v := fun i e => Nat.lt_of_lt_of_le (h i e) hn
theorem sk_oC_mono {n n' : Nat} {c : sk_C} (h : sk_oC n c) (hn : n ≤ n') : sk_oC n' c := by
  rcases c with a | a | o
  · trivial
  · exact fun i hi => Nat.lt_of_lt_of_le (h i hi) hn
  · exact fun v hv => sk_oV_mono (h v hv) hn
theorem sk_tail {α : Type} {P : α → Prop} {a : α} {l : List α} (h : ∀ v ∈ a :: l, P v) : ∀ v ∈ l, P v := fun v hv => h v (List.mem_cons_of_mem _ hv)
theorem sk_cons {α : Type} {P : α → Prop} {a : α} {l : List α} (h0 : P a) (h : ∀ v ∈ l, P v) : ∀ v ∈ a :: l, P v := fun v hv => by
  rcases List.mem_cons.mp hv with e | e
  · rw [e]; exact h0
  · exact h v e
theorem sk_v_agree {ad ad' : Nat → Nat} {n : Nat} (ha : ∀ i, i < n → ad' i = ad i) {v : Value} (h : sk_oV n v) : sk_v ad' v = sk_v ad v := by
  cases v with
  | ref i => show Value.ref (ad' i) = Value.ref (ad i); rw [ha i (h i rfl)]
  | _ => rfl
theorem sk_c_agree {tc : Nat → ClassId} {ad ad' : Nat → Nat} {n : Nat} (ha : ∀ i, i < n → ad' i = ad i) {c : sk_C} (h : sk_oC n c) : sk_c tc ad' c = sk_c tc ad c := by
  rcases c with a | a | o
  · rfl
  · have e : (fun j => (a.2.getD j none).map ad') = (fun j => (a.2.getD j none).map ad) := by
      funext j
      cases hj : a.2.getD j none with
      | none => rfl
      | some i =>
        have hm : some i ∈ a.2 := by
          rw [List.getD_eq_getElem?_getD] at hj
          cases h9 : a.2[j]? with
          | none => rw [h9] at hj; cases hj
          | some z => rw [h9] at hj; cases hj; exact List.mem_of_getElem? h9
        show some (ad' i) = some (ad i)
        rw [ha i (h i hm)]
    simp only [sk_c, e]
  · have e : o.2.map (sk_v ad') = o.2.map (sk_v ad) := List.map_congr_left (fun v hv => sk_v_agree ha (h v hv))
    simp only [sk_c, e]
theorem sk_cat (ad : Nat → Nat) (v : Value) : (sk_v ad v).category = v.category := by cases v <;> rfl
theorem sk_w_at {tc : Nat → ClassId} {ad : Nat → Nat} {w : sk_H} {i : Nat} {c : sk_C} (h : w[i]? = some c) (hk : sk_k ≤ i) : (sk_w tc ad w)[i - sk_k]? = some (ad i, sk_c tc ad c) := by
  unfold sk_w
  rw [List.getElem?_mapIdx, List.getElem?_drop, Nat.add_sub_cancel' hk, h, Option.map_some, Nat.sub_add_cancel hk]
theorem sk_w_set {tc : Nat → ClassId} {ad : Nat → Nat} {w : sk_H} {i : Nat} {c : sk_C} (hk : sk_k ≤ i) : sk_w tc ad (w.set i c) = (sk_w tc ad w).set (i - sk_k) (ad i, sk_c tc ad c) := by
  apply List.ext_getElem?
  intro j
  unfold sk_w
  rw [List.getElem?_mapIdx, List.getElem?_drop, List.getElem?_set, List.getElem?_set, List.getElem?_mapIdx, List.getElem?_drop, List.length_mapIdx, List.length_drop]
  by_cases hj : i - sk_k = j
  · subst hj
    rw [if_pos (by omega), if_pos rfl]
    by_cases hl : i < w.length
    · rw [if_pos hl, if_pos (by omega), Option.map_some, Nat.sub_add_cancel hk]
    · rw [if_neg hl, if_neg (by omega)]; rfl
  · rw [if_neg (by omega), if_neg hj]
theorem sk_w_push {tc : Nat → ClassId} {ad ad' : Nat → Nat} {w : sk_H} {c : sk_C} (hw : sk_oW w) (hl : sk_k ≤ w.length) (ha : ∀ i, i < w.length → ad' i = ad i) : sk_w tc ad' (w ++ [c]) = sk_w tc ad w ++ [(ad' w.length, sk_c tc ad' c)] := by
  apply List.ext_getElem?
  intro j
  unfold sk_w
  rw [List.getElem?_mapIdx, List.getElem?_drop]
  by_cases hj : sk_k + j < w.length
  · rw [List.getElem?_append_left hj, List.getElem?_append_left (by rw [List.length_mapIdx, List.length_drop]; omega), List.getElem?_mapIdx, List.getElem?_drop]
    cases hc : w[sk_k + j]? with
    | none => rfl
    | some x =>
      rw [Option.map_some, Option.map_some, ha (j + sk_k) (by omega), sk_c_agree ha (hw.2 x (List.mem_of_getElem? hc))]
  · rw [List.getElem?_append_right (by omega), List.getElem?_append_right (by rw [List.length_mapIdx, List.length_drop]; omega), List.length_mapIdx, List.length_drop]
    by_cases h0 : sk_k + j = w.length
    · rw [show sk_k + j - w.length = 0 by omega, show j - (w.length - sk_k) = 0 by omega]
      show some (ad' (j + sk_k), sk_c tc ad' c) = some (ad' w.length, sk_c tc ad' c)
      rw [show j + sk_k = w.length by omega]
    · rw [show sk_k + j - w.length = (sk_k + j - w.length - 1) + 1 by omega, show j - (w.length - sk_k) = (j - (w.length - sk_k) - 1) + 1 by omega]
      rfl
theorem sk_oW_set {w : sk_H} {i : Nat} {c : sk_C} (h : sk_oW w) (hk : sk_k ≤ i) (hc : sk_oC w.length c) : sk_oW (w.set i c) := by
  refine ⟨fun j hj => ?_, fun x hx => ?_⟩
  · rw [List.getElem?_set_ne (by omega)]; exact h.1 j hj
  · rw [List.length_set]
    rcases List.mem_or_eq_of_mem_set hx with h1 | h1
    · exact h.2 x h1
    · rw [h1]; exact hc
theorem sk_oW_len {w : sk_H} (h : sk_oW w) : sk_k ≤ w.length := by
  cases hk : sk_k with
  | zero => exact Nat.zero_le _
  | succ n => exact (List.getElem?_eq_some_iff.mp (h.1 n (by omega))).1
theorem sk_oW_push {w : sk_H} {c : sk_C} (h : sk_oW w) (hc : sk_oC (w.length + 1) c) : sk_oW (w ++ [c]) := by
  have hl := sk_oW_len h
  refine ⟨fun j hj => ?_, fun x hx => ?_⟩
  · rw [List.getElem?_append_left (by omega)]; exact h.1 j hj
  · rw [List.length_append, List.length_singleton]
    rcases List.mem_append.mp hx with h1 | h1
    · exact sk_oC_mono (h.2 x h1) (Nat.le_succ _)
    · rw [List.mem_singleton.mp h1]; exact hc
theorem sk_ge {w : sk_H} (h : sk_oW w) {i : Nat} {c : sk_C} (hi : w[i]? = some c) (hc : c ≠ sk_dum) : sk_k ≤ i := by
  rcases Nat.lt_or_ge i sk_k with h1 | h1
  · exact absurd (Option.some.inj (hi.symm.trans (h.1 i h1))) hc
  · exact h1
end
section

abbrev sk_E : Type := (Nat → ClassId) × (Nat → Nat → Nat) × (Nat → ClassId) × (Nat → Prop) × (Nat → Nat) × Nat × (Nat → Int32)
abbrev eL (E : sk_E) : Nat := E.2.2.2.2.2.1
abbrev eX (E : sk_E) : Nat → Int32 := E.2.2.2.2.2.2
abbrev eD (E : sk_E) : va_G := (E.1, E.2.1)
abbrev eT (E : sk_E) : Nat → ClassId := E.2.2.1
abbrev eA (E : sk_E) : Nat → Prop := E.2.2.2.1
abbrev eO (E : sk_E) : Nat → Nat := E.2.2.2.2.1
def oc (i j : Nat) : Int32 := if i = 1 then oF.getD j 0 else if i = 2 then oA.getD j 0 else (oB.getD (i - (3 + oN)) []).getD j 0
def sk_old (E : sk_E) (U : State) (H : Heap) : Prop :=
  (va_X (eO E 0) (eL E) (eX E) U H ∧ eO E 0 < H.size ∧ ¬ eA E (eO E 0)) ∧ (va_T .int (eO E 1) 5 (fun j => .int (oc 1 j)) (eA E) U H ∧ va_Z "PackShelf$Sum" "FIRST" "[I" (.ref (eO E 1)) (eA E) U H) ∧ (va_T .int (eO E 2) 4 (fun j => .int (oc 2 j)) (eA E) U H ∧ va_Z "PackShelf$Sum" "ADDED" "[I" (.ref (eO E 2)) (eA E) U H) ∧
  vk_S oN (oB.map List.length) oB (fun i => eO E (3 + i)) (fun i => eO E (3 + oN + i)) (eA E) U H ∧ (∀ q ∈ oR, vk_R q.1 q.2.1 q.2.2.1 (eO E (3 + q.2.2.2)) U) ∧ oZ (eA E) U H
theorem sk_old_kept {E : sk_E} {U : State} {H H1 : Heap} (h : sk_old E U H) (hz : H.size ≤ H1.size) (hq : ∀ a : Nat, a < H.size → ¬ eA E a → H1[a]? = H[a]?) : sk_old E U H1 := by
  obtain ⟨⟨x1, x2, x3⟩, ⟨f1, f2⟩, ⟨g1, g2⟩, s1, r1, z1⟩ := h
  exact ⟨⟨x1.kept (hq _ x2 x3), Nat.lt_of_lt_of_le x2 hz, x3⟩, ⟨f1.kept hq, f2.kept hq⟩, ⟨g1.kept hq, g2.kept hq⟩, s1.kept hq, r1, oZ_kept z1 hq⟩
theorem sk_old_same {E : sk_E} {u U : State} {H : Heap} (hv : u.vm = U.vm) (h : sk_old E u H) : sk_old E U H := by
  have hvm : u.vm.Alike U.vm := by rw [hv]; exact Vm.Alike.refl _
  obtain ⟨⟨x1, x2, x3⟩, ⟨f1, f2⟩, ⟨g1, g2⟩, s1, r1, z1⟩ := h
  exact ⟨⟨x1.moved hvm, x2, x3⟩, ⟨f1.moved hvm, f2.moved hvm⟩, ⟨g1.moved hvm, g2.moved hvm⟩, s1.moved hvm, fun q hq => (r1 q hq).same hv.symm, oZ_moved hvm z1⟩
theorem sk_old_warm {E : sk_E} {s U : State} {H : Heap} (hW : s.WarmedH U.vm) (h : sk_old E s H) : sk_old E U H := by
  obtain ⟨⟨x1, x2, x3⟩, ⟨f1, f2⟩, ⟨g1, g2⟩, s1, r1, z1⟩ := h
  exact ⟨⟨x1.moved hW.alike, x2, x3⟩, ⟨f1.moved hW.alike, f2.moved hW.alike⟩, ⟨g1.moved hW.alike, g2.moved hW.alike⟩, s1.moved hW.alike, fun q hq => (r1 q hq).warm hW, oZ_moved hW.alike z1⟩

def sk_Q (E : sk_E) (ad0 : Nat → Nat) (n0 : Nat) (Po : Option Value → sk_H → Prop) : Array Value → State → Outcome → State → Prop := fun _ st oc t =>
  (∃ (r : Option Value) (w : sk_H) (ad : Nat → Nat), oc = .returned (r.map (sk_v ad)) ∧ Po r w ∧ n0 ≤ w.length ∧ sk_oW w ∧ (∀ v, r = some v → sk_oV w.length v) ∧ (∀ i, i < n0 → ad i = ad0 i) ∧ va_P (eD E) vwCl (sk_w (eT E) ad w) t.heap ∧ va_D (eA E) (sk_w (eT E) ad w)) ∧ va_F (eA E) st t
def sk_G (p : Program) (l : Launch) (e : Env) (R : Room) (s : State) (m : MethodId) (args : Array Value) (below : List Frame) (meth : Method) (c : Code) (nL : Nat) (E : sk_E) (ad0 : Nat → Nat) (n0 : Nat) (Q : State → Prop) : sk_P := fun w pc lv st k n =>
  ∀ (ad : Nat → Nat) (H : Heap) (locs : List Loc) (ls : Array Slot), n0 ≤ w.length → sk_oW w → (∀ q ∈ lv, sk_oV w.length q.2) → (∀ v ∈ st, sk_oV w.length v) → (∀ i, i < n0 → ad i = ad0 i) → lv_has ls nL (sk_l ad lv) → va_P (eD E) vwCl (sk_w (eT E) ad w) H → va_D (eA E) (sk_w (eT E) ad w) → va_S (eA E) s.heap H locs →
    W p l e R s m args below meth c H locs k n Q (F0 m pc ls (st.map (sk_v ad)))
def sk_X (p : Program) (s : State) (m : MethodId) (args : Array Value) (meth : Method) (c : Code) (M : sk_M) (E : sk_E) (ad0 : Nat → Nat) (n0 : Nat) : Prop :=
  p.tables.exec = Jvm.exec ∧ c.code = M.2.1 ∧ c.maxLocals = M.2.2.1 ∧ s.vm.findClass M.1.cls = some m.cls ∧ (∀ w ∈ sk_ws, w.before args s = true) ∧ va_K (eD E) vwCl (sk_t (eT E)) s ∧ sk_old E s s.heap ∧ (∀ q, s.heap.size ≤ q → eA E q) ∧ sk_k ≤ n0 ∧ (∀ i, i < sk_k → ad0 i = eO E i) ∧ meth.name = M.1.name
def sk_r (R : Room) (d kc ks : Nat) : Prop := d ≤ R.frames ∧ kc ≤ R.cells ∧ ks ≤ R.slots ∧ 32 * d ≤ R.locals
def sk_F (M : sk_M) (d kc ks : Nat) (Z : sk_P) : Prop :=
  ∃ (p : Program) (l : Launch) (e : Env) (R : Room) (s : State) (m : MethodId) (args : Array Value) (below : List Frame) (meth : Method) (c : Code) (E : sk_E) (ad0 : Nat → Nat) (n0 : Nat) (Q : State → Prop),
    Z = sk_G p l e R s m args below meth c M.2.2.1 E ad0 n0 Q ∧ sk_X p s m args meth c M E ad0 n0 ∧ sk_r R d kc ks
def sk_T (M : sk_M) (d kc ks : Nat) (Po : Option Value → sk_H → Prop) (Z : sk_P) : Prop :=
  ∃ (p : Program) (l : Launch) (e : Env) (s : State) (m : MethodId) (args : Array Value) (below : List Frame) (meth : Method) (c : Code) (E : sk_E) (ad0 : Nat → Nat) (n0 : Nat),
    Z = sk_G p l e (sk_R d kc ks) s m args below meth c M.2.2.1 E ad0 n0 (MQ below (sk_Q E ad0 n0 Po) args s kc ks (eA E)) ∧ sk_X p s m args meth c M E ad0 n0 ∧ meth.sig.returnType = M.2.2.2 ∧ meth.locks = false
theorem sk_T.F {M : sk_M} {d kc ks : Nat} {Po : Option Value → sk_H → Prop} {Z : sk_P} (h : sk_T M d kc ks Po Z) : sk_F M d kc ks Z := by
  obtain ⟨p, l, e, s, m, args, below, meth, c, E, ad0, n0, h1, h2, -⟩ := h
  exact ⟨p, l, e, _, s, m, args, below, meth, c, E, ad0, n0, _, h1, h2, Nat.le_refl _, Nat.le_refl _, Nat.le_refl _, Nat.le_refl _⟩
def sk_pre (E : sk_E) (ad : Nat → Nat) (w : sk_H) (U : State) : Prop := (∀ q, U.heap.size ≤ q → eA E q) ∧ va_P (eD E) vwCl (sk_w (eT E) ad w) U.heap ∧ va_K (eD E) vwCl (sk_t (eT E)) U ∧ va_D (eA E) (sk_w (eT E) ad w) ∧ sk_old E U U.heap
def Ct (M : sk_M) (d kc ks : Nat) (w : sk_H) (as : List Value) (Po : Option Value → sk_H → Prop) : Prop :=
  ∀ (l : Launch) (E : sk_E) (ad : Nat → Nat), sk_oW w → (∀ v ∈ as, sk_oV w.length v) → (∀ i, i < sk_k → ad i = eO E i) →
    Met l M.1 (Cond.code M.1 M.2.1 M.2.2.1 M.2.2.2 :: sk_ws) (sk_R d kc ks) (va_Pc (as.map (sk_v ad)) (sk_pre E ad w)) (sk_Q E ad w.length Po) kc ks (eA E)
def c_ushr (x y : Int32) : Int32 := (x.toUInt32 >>> (y.toUInt32 &&& Int32.toUInt32 31)).toInt32
def c_shl (x y : Int32) : Int32 := x <<< (y &&& 31)
def c_shr (x y : Int32) : Int32 := x >>> (y &&& 31)
def c_rem (x y : Int32) : Int32 := x - x / y * y
def c_min (x y : Int32) : Int32 := if y < x then y else x
def c_i2c (x : Int32) : Int32 := (x.toUInt32 % 65536).toInt32
def c_lushr (x : Int64) (y : Int32) : Int64 := (x.toUInt64 >>> (y.toInt64.toUInt64 &&& Int64.toUInt64 63)).toInt64
def c_lshl (x : Int64) (y : Int32) : Int64 := x <<< (y.toInt64 &&& 63)
def c_lshr (x : Int64) (y : Int32) : Int64 := x >>> (y.toInt64 &&& 63)
theorem sk_inc {x : Int32} {z : Int} {v : Int32} (h : Int32.ofInt z = v) : x + Int32.ofInt z = x + v := by rw [h]
def sk_st1 (lv : List (Nat × Value)) (i : Nat) (v : Value) : List (Nat × Value) := (i, v) :: lv.filter (fun q => !(q.1 == i) && !(q.1 + 1 == i && q.2.category == 2))
def sk_st2 (lv : List (Nat × Value)) (i : Nat) (v : Value) : List (Nat × Value) := (i, v) :: lv.filter (fun q => !(q.1 == i) && (!(q.1 == i + 1) && !(q.1 + 1 == i && q.2.category == 2)))
theorem sk_st1_l (ad : Nat → Nat) (lv : List (Nat × Value)) (i : Nat) (v : Value) : (i, sk_v ad v) :: (sk_l ad lv).filter (fun q => !(q.1 == i) && !(q.1 + 1 == i && q.2.category == 2)) = sk_l ad (sk_st1 lv i v) := by
  unfold sk_st1 sk_l
  rw [List.map_cons, List.filter_map]
  congr 2
  apply List.filter_congr
  intro q _
  simp only [Function.comp, sk_cat]
theorem sk_st2_l (ad : Nat → Nat) (lv : List (Nat × Value)) (i : Nat) (v : Value) : (i, sk_v ad v) :: (sk_l ad lv).filter (fun q => !(q.1 == i) && (!(q.1 == i + 1) && !(q.1 + 1 == i && q.2.category == 2))) = sk_l ad (sk_st2 lv i v) := by
  unfold sk_st2 sk_l
  rw [List.map_cons, List.filter_map]
  congr 2
  apply List.filter_congr
  intro q _
  simp only [Function.comp, sk_cat]
theorem sk_st1_ok {N : Nat} {lv : List (Nat × Value)} {i : Nat} {v : Value} (h : ∀ q ∈ lv, sk_oV N q.2) (hv : sk_oV N v) : ∀ q ∈ sk_st1 lv i v, sk_oV N q.2 := by
  intro q hq
  rcases List.mem_cons.mp hq with e | e
  · rw [e]; exact hv
  · exact h q (List.mem_filter.mp e).1
theorem sk_st2_ok {N : Nat} {lv : List (Nat × Value)} {i : Nat} {v : Value} (h : ∀ q ∈ lv, sk_oV N q.2) (hv : sk_oV N v) : ∀ q ∈ sk_st2 lv i v, sk_oV N q.2 := by
  intro q hq
  rcases List.mem_cons.mp hq with e | e
  · rw [e]; exact hv
  · exact h q (List.mem_filter.mp e).1
theorem sk_l_at {ad : Nat → Nat} {lv : List (Nat × Value)} {j i : Nat} {v : Value} (h : lv[j]? = some (i, v)) : (sk_l ad lv)[j]? = some (i, sk_v ad v) := by
  unfold sk_l
  rw [List.getElem?_map, h]
  rfl
theorem sk_hd {α : Type} {P : α → Prop} {a : α} {l : List α} (h : ∀ v ∈ a :: l, P v) : P a := h a List.mem_cons_self
theorem sk_cats (ad : Nat → Nat) (st : List Value) : ((st.map (sk_v ad)).map fun v => v.category).sum = (st.map fun v => v.category).sum := by
  rw [List.map_map]
  congr 1
  apply List.map_congr_left
  intro v _
  exact sk_cat ad v
theorem sk_args (ad : Nat → Nat) : ∀ (as : List Value) (i : Nat), lv_args i (as.map (sk_v ad)) = sk_l ad (lv_args i as)
  | [], _ => rfl
  | v :: as, i => by
    have h := sk_args ad as
    simp only [List.map_cons, lv_args, sk_cat, sk_l, h]
theorem sk_slen (ad : Nat → Nat) (as : List Value) : (lg_sl (as.map (sk_v ad))).length = (lg_sl as).length := by
  induction as with
  | nil => rfl
  | cons v as ih =>
    simp only [lg_sl, List.map_cons, List.flatMap_cons, List.length_append, sk_cat] at ih ⊢
    rw [ih]
    split <;> rfl
theorem sk_args_ok {N : Nat} : ∀ (as : List Value) (i : Nat), (∀ v ∈ as, sk_oV N v) → ∀ q ∈ lv_args i as, sk_oV N q.2
  | [], _, _ => fun q h => by cases h
  | v :: as, i, h => by
    intro q hq
    simp only [lv_args, List.mem_cons] at hq
    rcases hq with e | e
    · rw [e]; exact sk_hd h
    · exact sk_args_ok as _ (sk_tail h) q e
theorem Ct.of {M : sk_M} {d kc ks : Nat} {w : sk_H} {as : List Value} {Po : Option Value → sk_H → Prop} (hy : plainName M.1.cls = true) (hlen : (lg_sl as).length ≤ M.2.2.1) (h : ∀ Z, sk_T M d kc ks Po Z → Z w 0 (lv_args 0 as) [] 0 0) : Ct M d kc ks w as Po := by
  intro l E ad hw has had
  refine Met.ofW (cc := M.2.1) (maxL := M.2.2.1) (ret := M.2.2.2) hy rfl ?_
  intro p e s m args below meth c s₁ B hml hv
  obtain ⟨rfl, hA, hP, hK, hD, hO⟩ := hv
  have hts := atoms_spec B.pre
  have hown := findClass_of_methodNamed B.named
  have hl := lv_entry (as.map (sk_v ad)) (n := M.2.2.1) (by rw [sk_slen]; exact hlen)
  rw [lg_entry_eq]
  rw [sk_args] at hl
  exact h _ ⟨p, l, e, s, m, _, below, meth, c, E, ad, w.length, rfl, ⟨B.exec, B.bytes, hml, hown, fun x hx => hts x (List.mem_cons_of_mem _ hx), hK, hO, hA, sk_oW_len hw, had, (name_of_methodNamed B.named B.method).1⟩, B.returns, B.notSynchronized⟩ ad s.heap [] _ (Nat.le_refl _) hw (sk_args_ok as 0 has) (fun _ h => by cases h) (fun _ _ => rfl) hl hP hD va_S.rf
section SKR

variable {M : sk_M} {d kc ks : Nat} {Po : Option Value → sk_H → Prop} {Z : sk_P} {w : sk_H} {pc : Nat} {lv lv' : List (Nat × Value)} {st : List Value} {k n : Nat}

theorem g_iadd (F : sk_F M d kc ks Z) {x y : Int32} (hd : decode M.2.1 pc = .ok (.iadd, 1)) (h : Z w (pc + 1) lv (.int (x + y) :: st) k n) : Z w pc lv (.int y :: .int x :: st) k n := by
  obtain ⟨p, l, e, R, s, m, args, below, meth, c, E, ad0, n0, Q, rfl, ⟨hx, hb, hml, hown, hts, hK, hO, hA, hn0, had, hnm⟩, hR⟩ := F
  intro ad H locs ls a1 a2 a3 a4 a5 a6 a7 a8 a9
  exact lv_iadd (x := x) (y := y) hx hb hd (h ad H locs ls a1 a2 a3 (sk_cons sk_oV_int (sk_tail (sk_tail a4))) a5 a6 a7 a8 a9)
theorem g_isub (F : sk_F M d kc ks Z) {x y : Int32} (hd : decode M.2.1 pc = .ok (.isub, 1)) (h : Z w (pc + 1) lv (.int (x - y) :: st) k n) : Z w pc lv (.int y :: .int x :: st) k n := by
  obtain ⟨p, l, e, R, s, m, args, below, meth, c, E, ad0, n0, Q, rfl, ⟨hx, hb, hml, hown, hts, hK, hO, hA, hn0, had, hnm⟩, hR⟩ := F
  intro ad H locs ls a1 a2 a3 a4 a5 a6 a7 a8 a9
  exact lv_isub (x := x) (y := y) hx hb hd (h ad H locs ls a1 a2 a3 (sk_cons sk_oV_int (sk_tail (sk_tail a4))) a5 a6 a7 a8 a9)
theorem g_imul (F : sk_F M d kc ks Z) {x y : Int32} (hd : decode M.2.1 pc = .ok (.imul, 1)) (h : Z w (pc + 1) lv (.int (x * y) :: st) k n) : Z w pc lv (.int y :: .int x :: st) k n := by
  obtain ⟨p, l, e, R, s, m, args, below, meth, c, E, ad0, n0, Q, rfl, ⟨hx, hb, hml, hown, hts, hK, hO, hA, hn0, had, hnm⟩, hR⟩ := F
  intro ad H locs ls a1 a2 a3 a4 a5 a6 a7 a8 a9
  exact lv_imul (x := x) (y := y) hx hb hd (h ad H locs ls a1 a2 a3 (sk_cons sk_oV_int (sk_tail (sk_tail a4))) a5 a6 a7 a8 a9)
theorem g_iand (F : sk_F M d kc ks Z) {x y : Int32} (hd : decode M.2.1 pc = .ok (.iand, 1)) (h : Z w (pc + 1) lv (.int (x &&& y) :: st) k n) : Z w pc lv (.int y :: .int x :: st) k n := by
  obtain ⟨p, l, e, R, s, m, args, below, meth, c, E, ad0, n0, Q, rfl, ⟨hx, hb, hml, hown, hts, hK, hO, hA, hn0, had, hnm⟩, hR⟩ := F
  intro ad H locs ls a1 a2 a3 a4 a5 a6 a7 a8 a9
  exact lv_iand (x := x) (y := y) hx hb hd (h ad H locs ls a1 a2 a3 (sk_cons sk_oV_int (sk_tail (sk_tail a4))) a5 a6 a7 a8 a9)
theorem g_ior (F : sk_F M d kc ks Z) {x y : Int32} (hd : decode M.2.1 pc = .ok (.ior, 1)) (h : Z w (pc + 1) lv (.int (x ||| y) :: st) k n) : Z w pc lv (.int y :: .int x :: st) k n := by
  obtain ⟨p, l, e, R, s, m, args, below, meth, c, E, ad0, n0, Q, rfl, ⟨hx, hb, hml, hown, hts, hK, hO, hA, hn0, had, hnm⟩, hR⟩ := F
  intro ad H locs ls a1 a2 a3 a4 a5 a6 a7 a8 a9
  exact lv_ior (x := x) (y := y) hx hb hd (h ad H locs ls a1 a2 a3 (sk_cons sk_oV_int (sk_tail (sk_tail a4))) a5 a6 a7 a8 a9)
theorem g_ixor (F : sk_F M d kc ks Z) {x y : Int32} (hd : decode M.2.1 pc = .ok (.ixor, 1)) (h : Z w (pc + 1) lv (.int (x ^^^ y) :: st) k n) : Z w pc lv (.int y :: .int x :: st) k n := by
  obtain ⟨p, l, e, R, s, m, args, below, meth, c, E, ad0, n0, Q, rfl, ⟨hx, hb, hml, hown, hts, hK, hO, hA, hn0, had, hnm⟩, hR⟩ := F
  intro ad H locs ls a1 a2 a3 a4 a5 a6 a7 a8 a9
  exact lv_ixor (x := x) (y := y) hx hb hd (h ad H locs ls a1 a2 a3 (sk_cons sk_oV_int (sk_tail (sk_tail a4))) a5 a6 a7 a8 a9)
theorem g_idiv (F : sk_F M d kc ks Z) {x y : Int32} (hd : decode M.2.1 pc = .ok (.idiv, 1)) (hne : ¬ y = 0) (h : Z w (pc + 1) lv (.int (x / y) :: st) k n) : Z w pc lv (.int y :: .int x :: st) k n := by
  obtain ⟨p, l, e, R, s, m, args, below, meth, c, E, ad0, n0, Q, rfl, ⟨hx, hb, hml, hown, hts, hK, hO, hA, hn0, had, hnm⟩, hR⟩ := F
  intro ad H locs ls a1 a2 a3 a4 a5 a6 a7 a8 a9
  exact lv_idiv (x := x) (y := y) hx hb hd hne (h ad H locs ls a1 a2 a3 (sk_cons sk_oV_int (sk_tail (sk_tail a4))) a5 a6 a7 a8 a9)
theorem g_irem (F : sk_F M d kc ks Z) {x y : Int32} (hd : decode M.2.1 pc = .ok (.irem, 1)) (hne : ¬ y = 0) (h : Z w (pc + 1) lv (.int (c_rem x y) :: st) k n) : Z w pc lv (.int y :: .int x :: st) k n := by
  obtain ⟨p, l, e, R, s, m, args, below, meth, c, E, ad0, n0, Q, rfl, ⟨hx, hb, hml, hown, hts, hK, hO, hA, hn0, had, hnm⟩, hR⟩ := F
  intro ad H locs ls a1 a2 a3 a4 a5 a6 a7 a8 a9
  exact lv_irem (x := x) (y := y) hx hb hd hne (h ad H locs ls a1 a2 a3 (sk_cons sk_oV_int (sk_tail (sk_tail a4))) a5 a6 a7 a8 a9)
theorem g_ishl (F : sk_F M d kc ks Z) {x y : Int32} (hd : decode M.2.1 pc = .ok (.ishl, 1)) (h : Z w (pc + 1) lv (.int (c_shl x y) :: st) k n) : Z w pc lv (.int y :: .int x :: st) k n := by
  obtain ⟨p, l, e, R, s, m, args, below, meth, c, E, ad0, n0, Q, rfl, ⟨hx, hb, hml, hown, hts, hK, hO, hA, hn0, had, hnm⟩, hR⟩ := F
  intro ad H locs ls a1 a2 a3 a4 a5 a6 a7 a8 a9
  exact lv_ishl (x := x) (y := y) hx hb hd (h ad H locs ls a1 a2 a3 (sk_cons sk_oV_int (sk_tail (sk_tail a4))) a5 a6 a7 a8 a9)
theorem g_ishr (F : sk_F M d kc ks Z) {x y : Int32} (hd : decode M.2.1 pc = .ok (.ishr, 1)) (h : Z w (pc + 1) lv (.int (c_shr x y) :: st) k n) : Z w pc lv (.int y :: .int x :: st) k n := by
  obtain ⟨p, l, e, R, s, m, args, below, meth, c, E, ad0, n0, Q, rfl, ⟨hx, hb, hml, hown, hts, hK, hO, hA, hn0, had, hnm⟩, hR⟩ := F
  intro ad H locs ls a1 a2 a3 a4 a5 a6 a7 a8 a9
  exact lv_ishr (x := x) (y := y) hx hb hd (h ad H locs ls a1 a2 a3 (sk_cons sk_oV_int (sk_tail (sk_tail a4))) a5 a6 a7 a8 a9)
theorem g_iushr (F : sk_F M d kc ks Z) {x y : Int32} (hd : decode M.2.1 pc = .ok (.iushr, 1)) (h : Z w (pc + 1) lv (.int (c_ushr x y) :: st) k n) : Z w pc lv (.int y :: .int x :: st) k n := by
  obtain ⟨p, l, e, R, s, m, args, below, meth, c, E, ad0, n0, Q, rfl, ⟨hx, hb, hml, hown, hts, hK, hO, hA, hn0, had, hnm⟩, hR⟩ := F
  intro ad H locs ls a1 a2 a3 a4 a5 a6 a7 a8 a9
  exact lv_iushr (x := x) (y := y) hx hb hd rfl (h ad H locs ls a1 a2 a3 (sk_cons sk_oV_int (sk_tail (sk_tail a4))) a5 a6 a7 a8 a9)
theorem g_ineg (F : sk_F M d kc ks Z) {x : Int32} (hd : decode M.2.1 pc = .ok (.ineg, 1)) (h : Z w (pc + 1) lv (.int (-x) :: st) k n) : Z w pc lv (.int x :: st) k n := by
  obtain ⟨p, l, e, R, s, m, args, below, meth, c, E, ad0, n0, Q, rfl, ⟨hx, hb, hml, hown, hts, hK, hO, hA, hn0, had, hnm⟩, hR⟩ := F
  intro ad H locs ls a1 a2 a3 a4 a5 a6 a7 a8 a9
  exact lv_ineg (x := x) hx hb hd (h ad H locs ls a1 a2 a3 (sk_cons sk_oV_int (sk_tail a4)) a5 a6 a7 a8 a9)
theorem g_i2l (F : sk_F M d kc ks Z) {x : Int32} (hd : decode M.2.1 pc = .ok (.i2l, 1)) (h : Z w (pc + 1) lv (.long x.toInt64 :: st) k n) : Z w pc lv (.int x :: st) k n := by
  obtain ⟨p, l, e, R, s, m, args, below, meth, c, E, ad0, n0, Q, rfl, ⟨hx, hb, hml, hown, hts, hK, hO, hA, hn0, had, hnm⟩, hR⟩ := F
  intro ad H locs ls a1 a2 a3 a4 a5 a6 a7 a8 a9
  exact lv_i2l (x := x) hx hb hd rfl (h ad H locs ls a1 a2 a3 (sk_cons sk_oV_long (sk_tail a4)) a5 a6 a7 a8 a9)
theorem g_l2i (F : sk_F M d kc ks Z) {x : Int64} (hd : decode M.2.1 pc = .ok (.l2i, 1)) (h : Z w (pc + 1) lv (.int x.toInt32 :: st) k n) : Z w pc lv (.long x :: st) k n := by
  obtain ⟨p, l, e, R, s, m, args, below, meth, c, E, ad0, n0, Q, rfl, ⟨hx, hb, hml, hown, hts, hK, hO, hA, hn0, had, hnm⟩, hR⟩ := F
  intro ad H locs ls a1 a2 a3 a4 a5 a6 a7 a8 a9
  exact lv_l2i (x := x) hx hb hd rfl (h ad H locs ls a1 a2 a3 (sk_cons sk_oV_int (sk_tail a4)) a5 a6 a7 a8 a9)
theorem g_i2b (F : sk_F M d kc ks Z) {x : Int32} (hd : decode M.2.1 pc = .ok (.i2b, 1)) (h : Z w (pc + 1) lv (.int x.toInt8.toInt32 :: st) k n) : Z w pc lv (.int x :: st) k n := by
  obtain ⟨p, l, e, R, s, m, args, below, meth, c, E, ad0, n0, Q, rfl, ⟨hx, hb, hml, hown, hts, hK, hO, hA, hn0, had, hnm⟩, hR⟩ := F
  intro ad H locs ls a1 a2 a3 a4 a5 a6 a7 a8 a9
  exact lv_i2b (x := x) hx hb hd rfl (h ad H locs ls a1 a2 a3 (sk_cons sk_oV_int (sk_tail a4)) a5 a6 a7 a8 a9)
theorem g_i2c (F : sk_F M d kc ks Z) {x : Int32} (hd : decode M.2.1 pc = .ok (.i2c, 1)) (h : Z w (pc + 1) lv (.int (c_i2c x) :: st) k n) : Z w pc lv (.int x :: st) k n := by
  obtain ⟨p, l, e, R, s, m, args, below, meth, c, E, ad0, n0, Q, rfl, ⟨hx, hb, hml, hown, hts, hK, hO, hA, hn0, had, hnm⟩, hR⟩ := F
  intro ad H locs ls a1 a2 a3 a4 a5 a6 a7 a8 a9
  exact lv_i2c (x := x) hx hb hd rfl (h ad H locs ls a1 a2 a3 (sk_cons sk_oV_int (sk_tail a4)) a5 a6 a7 a8 a9)
theorem g_lushr (F : sk_F M d kc ks Z) {x : Int64} {y : Int32} (hd : decode M.2.1 pc = .ok (.lushr, 1)) (h : Z w (pc + 1) lv (.long (c_lushr x y) :: st) k n) : Z w pc lv (.int y :: .long x :: st) k n := by
  obtain ⟨p, l, e, R, s, m, args, below, meth, c, E, ad0, n0, Q, rfl, ⟨hx, hb, hml, hown, hts, hK, hO, hA, hn0, had, hnm⟩, hR⟩ := F
  intro ad H locs ls a1 a2 a3 a4 a5 a6 a7 a8 a9
  exact lv_lushr (x := x) (y := y) hx hb hd rfl (h ad H locs ls a1 a2 a3 (sk_cons sk_oV_long (sk_tail (sk_tail a4))) a5 a6 a7 a8 a9)
theorem g_lshl (F : sk_F M d kc ks Z) {x : Int64} {y : Int32} (hd : decode M.2.1 pc = .ok (.lshl, 1)) (h : Z w (pc + 1) lv (.long (c_lshl x y) :: st) k n) : Z w pc lv (.int y :: .long x :: st) k n := by
  obtain ⟨p, l, e, R, s, m, args, below, meth, c, E, ad0, n0, Q, rfl, ⟨hx, hb, hml, hown, hts, hK, hO, hA, hn0, had, hnm⟩, hR⟩ := F
  intro ad H locs ls a1 a2 a3 a4 a5 a6 a7 a8 a9
  exact lv_lshl (x := x) (y := y) hx hb hd rfl (h ad H locs ls a1 a2 a3 (sk_cons sk_oV_long (sk_tail (sk_tail a4))) a5 a6 a7 a8 a9)
theorem g_lshr (F : sk_F M d kc ks Z) {x : Int64} {y : Int32} (hd : decode M.2.1 pc = .ok (.lshr, 1)) (h : Z w (pc + 1) lv (.long (c_lshr x y) :: st) k n) : Z w pc lv (.int y :: .long x :: st) k n := by
  obtain ⟨p, l, e, R, s, m, args, below, meth, c, E, ad0, n0, Q, rfl, ⟨hx, hb, hml, hown, hts, hK, hO, hA, hn0, had, hnm⟩, hR⟩ := F
  intro ad H locs ls a1 a2 a3 a4 a5 a6 a7 a8 a9
  exact lv_lshr (x := x) (y := y) hx hb hd rfl (h ad H locs ls a1 a2 a3 (sk_cons sk_oV_long (sk_tail (sk_tail a4))) a5 a6 a7 a8 a9)
theorem g_lcmp (F : sk_F M d kc ks Z) {x y : Int64} (hd : decode M.2.1 pc = .ok (.lcmp, 1)) (h : Z w (pc + 1) lv (.int (lg_cmp x y) :: st) k n) : Z w pc lv (.long y :: .long x :: st) k n := by
  obtain ⟨p, l, e, R, s, m, args, below, meth, c, E, ad0, n0, Q, rfl, ⟨hx, hb, hml, hown, hts, hK, hO, hA, hn0, had, hnm⟩, hR⟩ := F
  intro ad H locs ls a1 a2 a3 a4 a5 a6 a7 a8 a9
  exact W.lcmp (x := x) (y := y) hx hb hd (h ad H locs ls a1 a2 a3 (sk_cons sk_oV_int (sk_tail (sk_tail a4))) a5 a6 a7 a8 a9)
theorem g_ladd (F : sk_F M d kc ks Z) {x y : Int64} (hd : decode M.2.1 pc = .ok (.ladd, 1)) (h : Z w (pc + 1) lv (.long (x + y) :: st) k n) : Z w pc lv (.long y :: .long x :: st) k n := by
  obtain ⟨p, l, e, R, s, m, args, below, meth, c, E, ad0, n0, Q, rfl, ⟨hx, hb, hml, hown, hts, hK, hO, hA, hn0, had, hnm⟩, hR⟩ := F
  intro ad H locs ls a1 a2 a3 a4 a5 a6 a7 a8 a9
  exact lv_ladd (x := x) (y := y) hx hb hd (h ad H locs ls a1 a2 a3 (sk_cons sk_oV_long (sk_tail (sk_tail a4))) a5 a6 a7 a8 a9)
theorem g_lsub (F : sk_F M d kc ks Z) {x y : Int64} (hd : decode M.2.1 pc = .ok (.lsub, 1)) (h : Z w (pc + 1) lv (.long (x - y) :: st) k n) : Z w pc lv (.long y :: .long x :: st) k n := by
  obtain ⟨p, l, e, R, s, m, args, below, meth, c, E, ad0, n0, Q, rfl, ⟨hx, hb, hml, hown, hts, hK, hO, hA, hn0, had, hnm⟩, hR⟩ := F
  intro ad H locs ls a1 a2 a3 a4 a5 a6 a7 a8 a9
  exact lv_lsub (x := x) (y := y) hx hb hd (h ad H locs ls a1 a2 a3 (sk_cons sk_oV_long (sk_tail (sk_tail a4))) a5 a6 a7 a8 a9)
theorem g_lmul (F : sk_F M d kc ks Z) {x y : Int64} (hd : decode M.2.1 pc = .ok (.lmul, 1)) (h : Z w (pc + 1) lv (.long (x * y) :: st) k n) : Z w pc lv (.long y :: .long x :: st) k n := by
  obtain ⟨p, l, e, R, s, m, args, below, meth, c, E, ad0, n0, Q, rfl, ⟨hx, hb, hml, hown, hts, hK, hO, hA, hn0, had, hnm⟩, hR⟩ := F
  intro ad H locs ls a1 a2 a3 a4 a5 a6 a7 a8 a9
  exact lv_lmul (x := x) (y := y) hx hb hd (h ad H locs ls a1 a2 a3 (sk_cons sk_oV_long (sk_tail (sk_tail a4))) a5 a6 a7 a8 a9)
theorem g_land (F : sk_F M d kc ks Z) {x y : Int64} (hd : decode M.2.1 pc = .ok (.land, 1)) (h : Z w (pc + 1) lv (.long (x &&& y) :: st) k n) : Z w pc lv (.long y :: .long x :: st) k n := by
  obtain ⟨p, l, e, R, s, m, args, below, meth, c, E, ad0, n0, Q, rfl, ⟨hx, hb, hml, hown, hts, hK, hO, hA, hn0, had, hnm⟩, hR⟩ := F
  intro ad H locs ls a1 a2 a3 a4 a5 a6 a7 a8 a9
  exact lv_land (x := x) (y := y) hx hb hd (h ad H locs ls a1 a2 a3 (sk_cons sk_oV_long (sk_tail (sk_tail a4))) a5 a6 a7 a8 a9)
theorem g_lor (F : sk_F M d kc ks Z) {x y : Int64} (hd : decode M.2.1 pc = .ok (.lor, 1)) (h : Z w (pc + 1) lv (.long (x ||| y) :: st) k n) : Z w pc lv (.long y :: .long x :: st) k n := by
  obtain ⟨p, l, e, R, s, m, args, below, meth, c, E, ad0, n0, Q, rfl, ⟨hx, hb, hml, hown, hts, hK, hO, hA, hn0, had, hnm⟩, hR⟩ := F
  intro ad H locs ls a1 a2 a3 a4 a5 a6 a7 a8 a9
  exact lv_lor (x := x) (y := y) hx hb hd (h ad H locs ls a1 a2 a3 (sk_cons sk_oV_long (sk_tail (sk_tail a4))) a5 a6 a7 a8 a9)
theorem g_lxor (F : sk_F M d kc ks Z) {x y : Int64} (hd : decode M.2.1 pc = .ok (.lxor, 1)) (h : Z w (pc + 1) lv (.long (x ^^^ y) :: st) k n) : Z w pc lv (.long y :: .long x :: st) k n := by
  obtain ⟨p, l, e, R, s, m, args, below, meth, c, E, ad0, n0, Q, rfl, ⟨hx, hb, hml, hown, hts, hK, hO, hA, hn0, had, hnm⟩, hR⟩ := F
  intro ad H locs ls a1 a2 a3 a4 a5 a6 a7 a8 a9
  exact lv_lxor (x := x) (y := y) hx hb hd (h ad H locs ls a1 a2 a3 (sk_cons sk_oV_long (sk_tail (sk_tail a4))) a5 a6 a7 a8 a9)
theorem g_iconst (F : sk_F M d kc ks Z) {z : Int} {v : Int32} (hd : decode M.2.1 pc = .ok (.iconst z, 1)) (hv : Int32.ofInt z = v) (h : Z w (pc + 1) lv (.int v :: st) k n) : Z w pc lv (st) k n := by
  obtain ⟨p, l, e, R, s, m, args, below, meth, c, E, ad0, n0, Q, rfl, ⟨hx, hb, hml, hown, hts, hK, hO, hA, hn0, had, hnm⟩, hR⟩ := F
  intro ad H locs ls a1 a2 a3 a4 a5 a6 a7 a8 a9
  exact lv_iconst hx hb hd hv (h ad H locs ls a1 a2 a3 (sk_cons sk_oV_int a4) a5 a6 a7 a8 a9)
theorem g_bipush (F : sk_F M d kc ks Z) {z : Int} {v : Int32} (hd : decode M.2.1 pc = .ok (.bipush z, 2)) (hv : (Int8.ofInt z).toInt32 = v) (h : Z w (pc + 2) lv (.int v :: st) k n) : Z w pc lv (st) k n := by
  obtain ⟨p, l, e, R, s, m, args, below, meth, c, E, ad0, n0, Q, rfl, ⟨hx, hb, hml, hown, hts, hK, hO, hA, hn0, had, hnm⟩, hR⟩ := F
  intro ad H locs ls a1 a2 a3 a4 a5 a6 a7 a8 a9
  exact lv_bipush hx hb hd hv (h ad H locs ls a1 a2 a3 (sk_cons sk_oV_int a4) a5 a6 a7 a8 a9)
theorem g_sipush (F : sk_F M d kc ks Z) {z : Int} {v : Int32} (hd : decode M.2.1 pc = .ok (.sipush z, 3)) (hv : (Int16.ofInt z).toInt32 = v) (h : Z w (pc + 3) lv (.int v :: st) k n) : Z w pc lv (st) k n := by
  obtain ⟨p, l, e, R, s, m, args, below, meth, c, E, ad0, n0, Q, rfl, ⟨hx, hb, hml, hown, hts, hK, hO, hA, hn0, had, hnm⟩, hR⟩ := F
  intro ad H locs ls a1 a2 a3 a4 a5 a6 a7 a8 a9
  exact lv_sipush hx hb hd hv (h ad H locs ls a1 a2 a3 (sk_cons sk_oV_int a4) a5 a6 a7 a8 a9)
theorem g_null (F : sk_F M d kc ks Z)  (hd : decode M.2.1 pc = .ok (.aconst_null, 1)) (h : Z w (pc + 1) lv (.null :: st) k n) : Z w pc lv (st) k n := by
  obtain ⟨p, l, e, R, s, m, args, below, meth, c, E, ad0, n0, Q, rfl, ⟨hx, hb, hml, hown, hts, hK, hO, hA, hn0, had, hnm⟩, hR⟩ := F
  intro ad H locs ls a1 a2 a3 a4 a5 a6 a7 a8 a9
  exact lv_null hx hb hd (h ad H locs ls a1 a2 a3 (sk_cons sk_oV_null a4) a5 a6 a7 a8 a9)
theorem g_ldc (F : sk_F M d kc ks Z) {idx : Nat} {v : Int32} (hd : decode M.2.1 pc = .ok (.ldc idx, 2)) (hw : Cond.constant M.1.cls idx v ∈ sk_ws) (h : Z w (pc + 2) lv (.int v :: st) k n) : Z w pc lv (st) k n := by
  obtain ⟨p, l, e, R, s, m, args, below, meth, c, E, ad0, n0, Q, rfl, ⟨hx, hb, hml, hown, hts, hK, hO, hA, hn0, had, hnm⟩, hR⟩ := F
  intro ad H locs ls a1 a2 a3 a4 a5 a6 a7 a8 a9
  exact lv_ldc hx hb hown (hts _ hw) hd (h ad H locs ls a1 a2 a3 (sk_cons sk_oV_int a4) a5 a6 a7 a8 a9)
theorem g_ldc2 (F : sk_F M d kc ks Z) {idx : Nat} {v : Int64} (hd : decode M.2.1 pc = .ok (.ldc2_w idx, 3)) (hw : Cond.constantLong M.1.cls idx v ∈ sk_ws) (h : Z w (pc + 3) lv (.long v :: st) k n) : Z w pc lv (st) k n := by
  obtain ⟨p, l, e, R, s, m, args, below, meth, c, E, ad0, n0, Q, rfl, ⟨hx, hb, hml, hown, hts, hK, hO, hA, hn0, had, hnm⟩, hR⟩ := F
  intro ad H locs ls a1 a2 a3 a4 a5 a6 a7 a8 a9
  exact lv_ldc2 hx hb hown (hts _ hw) hd (h ad H locs ls a1 a2 a3 (sk_cons sk_oV_long a4) a5 a6 a7 a8 a9)
theorem g_dup (F : sk_F M d kc ks Z) {a : Value} (hd : decode M.2.1 pc = .ok (.dup, 1)) (ha : a.category = 1) (h : Z w (pc + 1) lv (a :: a :: st) k n) : Z w pc lv (a :: st) k n := by
  obtain ⟨p, l, e, R, s, m, args, below, meth, c, E, ad0, n0, Q, rfl, ⟨hx, hb, hml, hown, hts, hK, hO, hA, hn0, had, hnm⟩, hR⟩ := F
  intro ad H locs ls a1 a2 a3 a4 a5 a6 a7 a8 a9
  exact lv_dup hx hb hd ((sk_cat ad a).trans ha) (h ad H locs ls a1 a2 a3 (sk_cons (sk_hd a4) (sk_cons (sk_hd a4) (sk_tail a4))) a5 a6 a7 a8 a9)
theorem g_pop (F : sk_F M d kc ks Z) {a : Value} (hd : decode M.2.1 pc = .ok (.pop, 1)) (ha : a.category = 1) (h : Z w (pc + 1) lv (st) k n) : Z w pc lv (a :: st) k n := by
  obtain ⟨p, l, e, R, s, m, args, below, meth, c, E, ad0, n0, Q, rfl, ⟨hx, hb, hml, hown, hts, hK, hO, hA, hn0, had, hnm⟩, hR⟩ := F
  intro ad H locs ls a1 a2 a3 a4 a5 a6 a7 a8 a9
  exact lv_pop hx hb hd ((sk_cat ad a).trans ha) (h ad H locs ls a1 a2 a3 (sk_tail a4) a5 a6 a7 a8 a9)
theorem g_dup_x1 (F : sk_F M d kc ks Z) {a b : Value} (hd : decode M.2.1 pc = .ok (.dup_x1, 1)) (ha : a.category = 1) (hc : b.category = 1) (h : Z w (pc + 1) lv (a :: b :: a :: st) k n) : Z w pc lv (a :: b :: st) k n := by
  obtain ⟨p, l, e, R, s, m, args, below, meth, c, E, ad0, n0, Q, rfl, ⟨hx, hb, hml, hown, hts, hK, hO, hA, hn0, had, hnm⟩, hR⟩ := F
  intro ad H locs ls a1 a2 a3 a4 a5 a6 a7 a8 a9
  exact lv_dup_x1 hx hb hd ((sk_cat ad a).trans ha) ((sk_cat ad b).trans hc) (h ad H locs ls a1 a2 a3 (sk_cons (sk_hd a4) (sk_cons (sk_hd (sk_tail a4)) (sk_cons (sk_hd a4) (sk_tail (sk_tail a4))))) a5 a6 a7 a8 a9)
theorem g_dup2 (F : sk_F M d kc ks Z) {a b : Value} (hd : decode M.2.1 pc = .ok (.dup2, 1)) (ha : a.category = 1) (hc : b.category = 1) (h : Z w (pc + 1) lv (a :: b :: a :: b :: st) k n) : Z w pc lv (a :: b :: st) k n := by
  obtain ⟨p, l, e, R, s, m, args, below, meth, c, E, ad0, n0, Q, rfl, ⟨hx, hb, hml, hown, hts, hK, hO, hA, hn0, had, hnm⟩, hR⟩ := F
  intro ad H locs ls a1 a2 a3 a4 a5 a6 a7 a8 a9
  exact lv_dup2_11 hx hb hd ((sk_cat ad a).trans ha) ((sk_cat ad b).trans hc) (h ad H locs ls a1 a2 a3 (sk_cons (sk_hd a4) (sk_cons (sk_hd (sk_tail a4)) (sk_cons (sk_hd a4) (sk_cons (sk_hd (sk_tail a4)) (sk_tail (sk_tail a4)))))) a5 a6 a7 a8 a9)
theorem g_iload_n (F : sk_F M d kc ks Z) {q : Fin 4} {x : Int32} (hd : decode M.2.1 pc = .ok (.iload_n q, 1)) (j : Nat) (hl : lv[j]? = some ((q : Nat), .int x)) (h : Z w (pc + 1) lv (.int x :: st) k n) : Z w pc lv (st) k n := by
  obtain ⟨p, l, e, R, s, m, args, below, meth, c, E, ad0, n0, Q, rfl, ⟨hx, hb, hml, hown, hts, hK, hO, hA, hn0, had, hnm⟩, hR⟩ := F
  intro ad H locs ls a1 a2 a3 a4 a5 a6 a7 a8 a9
  exact lv_iload_n hx hb hd rfl (lv_at a6 j (sk_l_at hl)) (h ad H locs ls a1 a2 a3 (sk_cons sk_oV_int a4) a5 a6 a7 a8 a9)
theorem g_iload (F : sk_F M d kc ks Z) {i : Nat} {x : Int32} (hd : decode M.2.1 pc = .ok (.iload i, 2)) (j : Nat) (hl : lv[j]? = some (i, .int x)) (h : Z w (pc + 2) lv (.int x :: st) k n) : Z w pc lv (st) k n := by
  obtain ⟨p, l, e, R, s, m, args, below, meth, c, E, ad0, n0, Q, rfl, ⟨hx, hb, hml, hown, hts, hK, hO, hA, hn0, had, hnm⟩, hR⟩ := F
  intro ad H locs ls a1 a2 a3 a4 a5 a6 a7 a8 a9
  exact lv_iload hx hb hd (lv_at a6 j (sk_l_at hl)) (h ad H locs ls a1 a2 a3 (sk_cons sk_oV_int a4) a5 a6 a7 a8 a9)
theorem g_lload_n (F : sk_F M d kc ks Z) {q : Fin 4} {x : Int64} (hd : decode M.2.1 pc = .ok (.lload_n q, 1)) (j : Nat) (hl : lv[j]? = some ((q : Nat), .long x)) (h : Z w (pc + 1) lv (.long x :: st) k n) : Z w pc lv (st) k n := by
  obtain ⟨p, l, e, R, s, m, args, below, meth, c, E, ad0, n0, Q, rfl, ⟨hx, hb, hml, hown, hts, hK, hO, hA, hn0, had, hnm⟩, hR⟩ := F
  intro ad H locs ls a1 a2 a3 a4 a5 a6 a7 a8 a9
  exact lv_lload_n hx hb hd rfl (lv_at a6 j (sk_l_at hl)) (h ad H locs ls a1 a2 a3 (sk_cons sk_oV_long a4) a5 a6 a7 a8 a9)
theorem g_lload (F : sk_F M d kc ks Z) {i : Nat} {x : Int64} (hd : decode M.2.1 pc = .ok (.lload i, 2)) (j : Nat) (hl : lv[j]? = some (i, .long x)) (h : Z w (pc + 2) lv (.long x :: st) k n) : Z w pc lv (st) k n := by
  obtain ⟨p, l, e, R, s, m, args, below, meth, c, E, ad0, n0, Q, rfl, ⟨hx, hb, hml, hown, hts, hK, hO, hA, hn0, had, hnm⟩, hR⟩ := F
  intro ad H locs ls a1 a2 a3 a4 a5 a6 a7 a8 a9
  exact lv_lload hx hb hd (lv_at a6 j (sk_l_at hl)) (h ad H locs ls a1 a2 a3 (sk_cons sk_oV_long a4) a5 a6 a7 a8 a9)
theorem g_aload_n (F : sk_F M d kc ks Z) {q : Fin 4} {x : Nat} (hd : decode M.2.1 pc = .ok (.aload_n q, 1)) (j : Nat) (hl : lv[j]? = some ((q : Nat), .ref x)) (h : Z w (pc + 1) lv (.ref x :: st) k n) : Z w pc lv (st) k n := by
  obtain ⟨p, l, e, R, s, m, args, below, meth, c, E, ad0, n0, Q, rfl, ⟨hx, hb, hml, hown, hts, hK, hO, hA, hn0, had, hnm⟩, hR⟩ := F
  intro ad H locs ls a1 a2 a3 a4 a5 a6 a7 a8 a9
  exact lv_aload_n hx hb hd rfl (lv_at a6 j (sk_l_at hl)) (h ad H locs ls a1 a2 a3 (sk_cons (a3 _ (List.mem_of_getElem? hl)) a4) a5 a6 a7 a8 a9)
theorem g_aload (F : sk_F M d kc ks Z) {i : Nat} {x : Nat} (hd : decode M.2.1 pc = .ok (.aload i, 2)) (j : Nat) (hl : lv[j]? = some (i, .ref x)) (h : Z w (pc + 2) lv (.ref x :: st) k n) : Z w pc lv (st) k n := by
  obtain ⟨p, l, e, R, s, m, args, below, meth, c, E, ad0, n0, Q, rfl, ⟨hx, hb, hml, hown, hts, hK, hO, hA, hn0, had, hnm⟩, hR⟩ := F
  intro ad H locs ls a1 a2 a3 a4 a5 a6 a7 a8 a9
  exact lv_aload hx hb hd (lv_at a6 j (sk_l_at hl)) (h ad H locs ls a1 a2 a3 (sk_cons (a3 _ (List.mem_of_getElem? hl)) a4) a5 a6 a7 a8 a9)
theorem g_aload_nN (F : sk_F M d kc ks Z) {q : Fin 4} (hd : decode M.2.1 pc = .ok (.aload_n q, 1)) (j : Nat) (hl : lv[j]? = some ((q : Nat), .null)) (h : Z w (pc + 1) lv (.null :: st) k n) : Z w pc lv (st) k n := by
  obtain ⟨p, l, e, R, s, m, args, below, meth, c, E, ad0, n0, Q, rfl, ⟨hx, hb, hml, hown, hts, hK, hO, hA, hn0, had, hnm⟩, hR⟩ := F
  intro ad H locs ls a1 a2 a3 a4 a5 a6 a7 a8 a9
  exact lv_aload_nN hx hb hd rfl (lv_at a6 j (sk_l_at hl)) (h ad H locs ls a1 a2 a3 (sk_cons sk_oV_null a4) a5 a6 a7 a8 a9)
theorem g_aloadN (F : sk_F M d kc ks Z) {i : Nat} (hd : decode M.2.1 pc = .ok (.aload i, 2)) (j : Nat) (hl : lv[j]? = some (i, .null)) (h : Z w (pc + 2) lv (.null :: st) k n) : Z w pc lv (st) k n := by
  obtain ⟨p, l, e, R, s, m, args, below, meth, c, E, ad0, n0, Q, rfl, ⟨hx, hb, hml, hown, hts, hK, hO, hA, hn0, had, hnm⟩, hR⟩ := F
  intro ad H locs ls a1 a2 a3 a4 a5 a6 a7 a8 a9
  exact lv_aloadN hx hb hd (lv_at a6 j (sk_l_at hl)) (h ad H locs ls a1 a2 a3 (sk_cons sk_oV_null a4) a5 a6 a7 a8 a9)
theorem g_istore_n (F : sk_F M d kc ks Z) {q : Fin 4} {x : Int32} (hd : decode M.2.1 pc = .ok (.istore_n q, 1)) (hn : (q : Nat) < M.2.2.1) (hl : sk_st1 lv (q : Nat) (.int x) = lv') (h : Z w (pc + 1) lv' st k n) : Z w pc lv (.int x :: st) k n := by
  obtain ⟨p, l, e, R, s, m, args, below, meth, c, E, ad0, n0, Q, rfl, ⟨hx, hb, hml, hown, hts, hK, hO, hA, hn0, had, hnm⟩, hR⟩ := F
  intro ad H locs ls a1 a2 a3 a4 a5 a6 a7 a8 a9
  subst hl
  exact lv_istore_n hx hb hd rfl a6 hn (sk_st1_l ad lv _ (.int x)) (fun ls' a6' => (h ad H locs ls' a1 a2 (sk_st1_ok a3 (sk_hd a4)) (sk_tail a4) a5 a6' a7 a8 a9))
theorem g_istore (F : sk_F M d kc ks Z) {i : Nat} {x : Int32} (hd : decode M.2.1 pc = .ok (.istore i, 2)) (hn : i < M.2.2.1) (hl : sk_st1 lv i (.int x) = lv') (h : Z w (pc + 2) lv' st k n) : Z w pc lv (.int x :: st) k n := by
  obtain ⟨p, l, e, R, s, m, args, below, meth, c, E, ad0, n0, Q, rfl, ⟨hx, hb, hml, hown, hts, hK, hO, hA, hn0, had, hnm⟩, hR⟩ := F
  intro ad H locs ls a1 a2 a3 a4 a5 a6 a7 a8 a9
  subst hl
  exact lv_istore hx hb hd a6 hn (sk_st1_l ad lv _ (.int x)) (fun ls' a6' => (h ad H locs ls' a1 a2 (sk_st1_ok a3 (sk_hd a4)) (sk_tail a4) a5 a6' a7 a8 a9))
theorem g_astore_n (F : sk_F M d kc ks Z) {q : Fin 4} {x : Nat} (hd : decode M.2.1 pc = .ok (.astore_n q, 1)) (hn : (q : Nat) < M.2.2.1) (hl : sk_st1 lv (q : Nat) (.ref x) = lv') (h : Z w (pc + 1) lv' st k n) : Z w pc lv (.ref x :: st) k n := by
  obtain ⟨p, l, e, R, s, m, args, below, meth, c, E, ad0, n0, Q, rfl, ⟨hx, hb, hml, hown, hts, hK, hO, hA, hn0, had, hnm⟩, hR⟩ := F
  intro ad H locs ls a1 a2 a3 a4 a5 a6 a7 a8 a9
  subst hl
  exact lv_astore_n hx hb hd rfl a6 hn (sk_st1_l ad lv _ (.ref x)) (fun ls' a6' => (h ad H locs ls' a1 a2 (sk_st1_ok a3 (sk_hd a4)) (sk_tail a4) a5 a6' a7 a8 a9))
theorem g_astore (F : sk_F M d kc ks Z) {i : Nat} {x : Nat} (hd : decode M.2.1 pc = .ok (.astore i, 2)) (hn : i < M.2.2.1) (hl : sk_st1 lv i (.ref x) = lv') (h : Z w (pc + 2) lv' st k n) : Z w pc lv (.ref x :: st) k n := by
  obtain ⟨p, l, e, R, s, m, args, below, meth, c, E, ad0, n0, Q, rfl, ⟨hx, hb, hml, hown, hts, hK, hO, hA, hn0, had, hnm⟩, hR⟩ := F
  intro ad H locs ls a1 a2 a3 a4 a5 a6 a7 a8 a9
  subst hl
  exact lv_astore hx hb hd a6 hn (sk_st1_l ad lv _ (.ref x)) (fun ls' a6' => (h ad H locs ls' a1 a2 (sk_st1_ok a3 (sk_hd a4)) (sk_tail a4) a5 a6' a7 a8 a9))
theorem g_astore_nN (F : sk_F M d kc ks Z) {q : Fin 4} (hd : decode M.2.1 pc = .ok (.astore_n q, 1)) (hn : (q : Nat) < M.2.2.1) (hl : sk_st1 lv (q : Nat) (.null) = lv') (h : Z w (pc + 1) lv' st k n) : Z w pc lv (.null :: st) k n := by
  obtain ⟨p, l, e, R, s, m, args, below, meth, c, E, ad0, n0, Q, rfl, ⟨hx, hb, hml, hown, hts, hK, hO, hA, hn0, had, hnm⟩, hR⟩ := F
  intro ad H locs ls a1 a2 a3 a4 a5 a6 a7 a8 a9
  subst hl
  exact lv_astore_nN hx hb hd rfl a6 hn (sk_st1_l ad lv _ (.null)) (fun ls' a6' => (h ad H locs ls' a1 a2 (sk_st1_ok a3 (sk_hd a4)) (sk_tail a4) a5 a6' a7 a8 a9))
theorem g_astoreN (F : sk_F M d kc ks Z) {i : Nat} (hd : decode M.2.1 pc = .ok (.astore i, 2)) (hn : i < M.2.2.1) (hl : sk_st1 lv i (.null) = lv') (h : Z w (pc + 2) lv' st k n) : Z w pc lv (.null :: st) k n := by
  obtain ⟨p, l, e, R, s, m, args, below, meth, c, E, ad0, n0, Q, rfl, ⟨hx, hb, hml, hown, hts, hK, hO, hA, hn0, had, hnm⟩, hR⟩ := F
  intro ad H locs ls a1 a2 a3 a4 a5 a6 a7 a8 a9
  subst hl
  exact lv_astoreN hx hb hd a6 hn (sk_st1_l ad lv _ (.null)) (fun ls' a6' => (h ad H locs ls' a1 a2 (sk_st1_ok a3 (sk_hd a4)) (sk_tail a4) a5 a6' a7 a8 a9))
theorem g_lstore_n (F : sk_F M d kc ks Z) {q : Fin 4} {x : Int64} (hd : decode M.2.1 pc = .ok (.lstore_n q, 1)) (hn : (q : Nat) + 1 < M.2.2.1) (hl : sk_st2 lv (q : Nat) (.long x) = lv') (h : Z w (pc + 1) lv' st k n) : Z w pc lv (.long x :: st) k n := by
  obtain ⟨p, l, e, R, s, m, args, below, meth, c, E, ad0, n0, Q, rfl, ⟨hx, hb, hml, hown, hts, hK, hO, hA, hn0, had, hnm⟩, hR⟩ := F
  intro ad H locs ls a1 a2 a3 a4 a5 a6 a7 a8 a9
  subst hl
  exact lv_lstore_n hx hb hd rfl a6 hn (sk_st2_l ad lv _ (.long x)) (fun ls' a6' => (h ad H locs ls' a1 a2 (sk_st2_ok a3 (sk_hd a4)) (sk_tail a4) a5 a6' a7 a8 a9))
theorem g_lstore (F : sk_F M d kc ks Z) {i : Nat} {x : Int64} (hd : decode M.2.1 pc = .ok (.lstore i, 2)) (hn : i + 1 < M.2.2.1) (hl : sk_st2 lv i (.long x) = lv') (h : Z w (pc + 2) lv' st k n) : Z w pc lv (.long x :: st) k n := by
  obtain ⟨p, l, e, R, s, m, args, below, meth, c, E, ad0, n0, Q, rfl, ⟨hx, hb, hml, hown, hts, hK, hO, hA, hn0, had, hnm⟩, hR⟩ := F
  intro ad H locs ls a1 a2 a3 a4 a5 a6 a7 a8 a9
  subst hl
  exact lv_lstore hx hb hd a6 hn (sk_st2_l ad lv _ (.long x)) (fun ls' a6' => (h ad H locs ls' a1 a2 (sk_st2_ok a3 (sk_hd a4)) (sk_tail a4) a5 a6' a7 a8 a9))
theorem g_iinc (F : sk_F M d kc ks Z) {i : Nat} {z : Int} {x v : Int32} (hd : decode M.2.1 pc = .ok (.iinc i z, 3)) (j : Nat) (hj : lv[j]? = some (i, .int x)) (hv : x + Int32.ofInt z = v) (hn : i < M.2.2.1) (hl : sk_st1 lv i (.int v) = lv') (h : Z w (pc + 3) lv' st k n) : Z w pc lv st k n := by
  obtain ⟨p, l, e, R, s, m, args, below, meth, c, E, ad0, n0, Q, rfl, ⟨hx, hb, hml, hown, hts, hK, hO, hA, hn0, had, hnm⟩, hR⟩ := F
  intro ad H locs ls a1 a2 a3 a4 a5 a6 a7 a8 a9
  subst hl
  exact lv_iinc (k := j) hx hb hd a6 (sk_l_at hj) hv hn (sk_st1_l ad lv i (.int v)) (fun ls' a6' => (h ad H locs ls' a1 a2 (sk_st1_ok a3 sk_oV_int) a4 a5 a6' a7 a8 a9))
theorem g_icmp_eq (F : sk_F M d kc ks Z) {x y : Int32} {off : Int} {tgt : Nat} (hd : decode M.2.1 pc = .ok (.if_icmp .eq off, 3)) (ht : (pc : Int) + off = (tgt : Int)) (kt : x = y → Z w tgt lv st k n) (kf : ¬ (x = y) → Z w (pc + 3) lv st k n) : Z w pc lv (.int y :: .int x :: st) k n := by
  obtain ⟨p, l, e, R, s, m, args, below, meth, c, E, ad0, n0, Q, rfl, ⟨hx, hb, hml, hown, hts, hK, hO, hA, hn0, had, hnm⟩, hR⟩ := F
  intro ad H locs ls a1 a2 a3 a4 a5 a6 a7 a8 a9
  exact lv_icmp_eq (x := x) (y := y) hx hb hd ht (fun h => (kt h ad H locs ls a1 a2 a3 (sk_tail (sk_tail a4)) a5 a6 a7 a8 a9)) (fun h => (kf h ad H locs ls a1 a2 a3 (sk_tail (sk_tail a4)) a5 a6 a7 a8 a9))
theorem g_if_eq (F : sk_F M d kc ks Z) {x : Int32} {off : Int} {tgt : Nat} (hd : decode M.2.1 pc = .ok (.ifCond .eq off, 3)) (ht : (pc : Int) + off = (tgt : Int)) (kt : x = 0 → Z w tgt lv st k n) (kf : ¬ (x = 0) → Z w (pc + 3) lv st k n) : Z w pc lv (.int x :: st) k n := by
  obtain ⟨p, l, e, R, s, m, args, below, meth, c, E, ad0, n0, Q, rfl, ⟨hx, hb, hml, hown, hts, hK, hO, hA, hn0, had, hnm⟩, hR⟩ := F
  intro ad H locs ls a1 a2 a3 a4 a5 a6 a7 a8 a9
  exact lv_if_eq (x := x) hx hb hd ht (fun h => (kt h ad H locs ls a1 a2 a3 (sk_tail a4) a5 a6 a7 a8 a9)) (fun h => (kf h ad H locs ls a1 a2 a3 (sk_tail a4) a5 a6 a7 a8 a9))
theorem g_icmp_ne (F : sk_F M d kc ks Z) {x y : Int32} {off : Int} {tgt : Nat} (hd : decode M.2.1 pc = .ok (.if_icmp .ne off, 3)) (ht : (pc : Int) + off = (tgt : Int)) (kt : ¬ x = y → Z w tgt lv st k n) (kf : x = y → Z w (pc + 3) lv st k n) : Z w pc lv (.int y :: .int x :: st) k n := by
  obtain ⟨p, l, e, R, s, m, args, below, meth, c, E, ad0, n0, Q, rfl, ⟨hx, hb, hml, hown, hts, hK, hO, hA, hn0, had, hnm⟩, hR⟩ := F
  intro ad H locs ls a1 a2 a3 a4 a5 a6 a7 a8 a9
  exact lv_icmp_ne (x := x) (y := y) hx hb hd ht (fun h => (kt h ad H locs ls a1 a2 a3 (sk_tail (sk_tail a4)) a5 a6 a7 a8 a9)) (fun h => (kf h ad H locs ls a1 a2 a3 (sk_tail (sk_tail a4)) a5 a6 a7 a8 a9))
theorem g_if_ne (F : sk_F M d kc ks Z) {x : Int32} {off : Int} {tgt : Nat} (hd : decode M.2.1 pc = .ok (.ifCond .ne off, 3)) (ht : (pc : Int) + off = (tgt : Int)) (kt : ¬ x = 0 → Z w tgt lv st k n) (kf : x = 0 → Z w (pc + 3) lv st k n) : Z w pc lv (.int x :: st) k n := by
  obtain ⟨p, l, e, R, s, m, args, below, meth, c, E, ad0, n0, Q, rfl, ⟨hx, hb, hml, hown, hts, hK, hO, hA, hn0, had, hnm⟩, hR⟩ := F
  intro ad H locs ls a1 a2 a3 a4 a5 a6 a7 a8 a9
  exact lv_if_ne (x := x) hx hb hd ht (fun h => (kt h ad H locs ls a1 a2 a3 (sk_tail a4) a5 a6 a7 a8 a9)) (fun h => (kf h ad H locs ls a1 a2 a3 (sk_tail a4) a5 a6 a7 a8 a9))
theorem g_icmp_lt (F : sk_F M d kc ks Z) {x y : Int32} {off : Int} {tgt : Nat} (hd : decode M.2.1 pc = .ok (.if_icmp .lt off, 3)) (ht : (pc : Int) + off = (tgt : Int)) (kt : x < y → Z w tgt lv st k n) (kf : ¬ (x < y) → Z w (pc + 3) lv st k n) : Z w pc lv (.int y :: .int x :: st) k n := by
  obtain ⟨p, l, e, R, s, m, args, below, meth, c, E, ad0, n0, Q, rfl, ⟨hx, hb, hml, hown, hts, hK, hO, hA, hn0, had, hnm⟩, hR⟩ := F
  intro ad H locs ls a1 a2 a3 a4 a5 a6 a7 a8 a9
  exact lv_icmp_lt (x := x) (y := y) hx hb hd ht (fun h => (kt h ad H locs ls a1 a2 a3 (sk_tail (sk_tail a4)) a5 a6 a7 a8 a9)) (fun h => (kf h ad H locs ls a1 a2 a3 (sk_tail (sk_tail a4)) a5 a6 a7 a8 a9))
theorem g_if_lt (F : sk_F M d kc ks Z) {x : Int32} {off : Int} {tgt : Nat} (hd : decode M.2.1 pc = .ok (.ifCond .lt off, 3)) (ht : (pc : Int) + off = (tgt : Int)) (kt : x < 0 → Z w tgt lv st k n) (kf : ¬ (x < 0) → Z w (pc + 3) lv st k n) : Z w pc lv (.int x :: st) k n := by
  obtain ⟨p, l, e, R, s, m, args, below, meth, c, E, ad0, n0, Q, rfl, ⟨hx, hb, hml, hown, hts, hK, hO, hA, hn0, had, hnm⟩, hR⟩ := F
  intro ad H locs ls a1 a2 a3 a4 a5 a6 a7 a8 a9
  exact lv_if_lt (x := x) hx hb hd ht (fun h => (kt h ad H locs ls a1 a2 a3 (sk_tail a4) a5 a6 a7 a8 a9)) (fun h => (kf h ad H locs ls a1 a2 a3 (sk_tail a4) a5 a6 a7 a8 a9))
theorem g_icmp_ge (F : sk_F M d kc ks Z) {x y : Int32} {off : Int} {tgt : Nat} (hd : decode M.2.1 pc = .ok (.if_icmp .ge off, 3)) (ht : (pc : Int) + off = (tgt : Int)) (kt : y ≤ x → Z w tgt lv st k n) (kf : ¬ (y ≤ x) → Z w (pc + 3) lv st k n) : Z w pc lv (.int y :: .int x :: st) k n := by
  obtain ⟨p, l, e, R, s, m, args, below, meth, c, E, ad0, n0, Q, rfl, ⟨hx, hb, hml, hown, hts, hK, hO, hA, hn0, had, hnm⟩, hR⟩ := F
  intro ad H locs ls a1 a2 a3 a4 a5 a6 a7 a8 a9
  exact lv_icmp_ge (x := x) (y := y) hx hb hd ht (fun h => (kt h ad H locs ls a1 a2 a3 (sk_tail (sk_tail a4)) a5 a6 a7 a8 a9)) (fun h => (kf h ad H locs ls a1 a2 a3 (sk_tail (sk_tail a4)) a5 a6 a7 a8 a9))
theorem g_if_ge (F : sk_F M d kc ks Z) {x : Int32} {off : Int} {tgt : Nat} (hd : decode M.2.1 pc = .ok (.ifCond .ge off, 3)) (ht : (pc : Int) + off = (tgt : Int)) (kt : 0 ≤ x → Z w tgt lv st k n) (kf : ¬ (0 ≤ x) → Z w (pc + 3) lv st k n) : Z w pc lv (.int x :: st) k n := by
  obtain ⟨p, l, e, R, s, m, args, below, meth, c, E, ad0, n0, Q, rfl, ⟨hx, hb, hml, hown, hts, hK, hO, hA, hn0, had, hnm⟩, hR⟩ := F
  intro ad H locs ls a1 a2 a3 a4 a5 a6 a7 a8 a9
  exact lv_if_ge (x := x) hx hb hd ht (fun h => (kt h ad H locs ls a1 a2 a3 (sk_tail a4) a5 a6 a7 a8 a9)) (fun h => (kf h ad H locs ls a1 a2 a3 (sk_tail a4) a5 a6 a7 a8 a9))
theorem g_icmp_gt (F : sk_F M d kc ks Z) {x y : Int32} {off : Int} {tgt : Nat} (hd : decode M.2.1 pc = .ok (.if_icmp .gt off, 3)) (ht : (pc : Int) + off = (tgt : Int)) (kt : y < x → Z w tgt lv st k n) (kf : ¬ (y < x) → Z w (pc + 3) lv st k n) : Z w pc lv (.int y :: .int x :: st) k n := by
  obtain ⟨p, l, e, R, s, m, args, below, meth, c, E, ad0, n0, Q, rfl, ⟨hx, hb, hml, hown, hts, hK, hO, hA, hn0, had, hnm⟩, hR⟩ := F
  intro ad H locs ls a1 a2 a3 a4 a5 a6 a7 a8 a9
  exact lv_icmp_gt (x := x) (y := y) hx hb hd ht (fun h => (kt h ad H locs ls a1 a2 a3 (sk_tail (sk_tail a4)) a5 a6 a7 a8 a9)) (fun h => (kf h ad H locs ls a1 a2 a3 (sk_tail (sk_tail a4)) a5 a6 a7 a8 a9))
theorem g_if_gt (F : sk_F M d kc ks Z) {x : Int32} {off : Int} {tgt : Nat} (hd : decode M.2.1 pc = .ok (.ifCond .gt off, 3)) (ht : (pc : Int) + off = (tgt : Int)) (kt : 0 < x → Z w tgt lv st k n) (kf : ¬ (0 < x) → Z w (pc + 3) lv st k n) : Z w pc lv (.int x :: st) k n := by
  obtain ⟨p, l, e, R, s, m, args, below, meth, c, E, ad0, n0, Q, rfl, ⟨hx, hb, hml, hown, hts, hK, hO, hA, hn0, had, hnm⟩, hR⟩ := F
  intro ad H locs ls a1 a2 a3 a4 a5 a6 a7 a8 a9
  exact lv_if_gt (x := x) hx hb hd ht (fun h => (kt h ad H locs ls a1 a2 a3 (sk_tail a4) a5 a6 a7 a8 a9)) (fun h => (kf h ad H locs ls a1 a2 a3 (sk_tail a4) a5 a6 a7 a8 a9))
theorem g_icmp_le (F : sk_F M d kc ks Z) {x y : Int32} {off : Int} {tgt : Nat} (hd : decode M.2.1 pc = .ok (.if_icmp .le off, 3)) (ht : (pc : Int) + off = (tgt : Int)) (kt : x ≤ y → Z w tgt lv st k n) (kf : ¬ (x ≤ y) → Z w (pc + 3) lv st k n) : Z w pc lv (.int y :: .int x :: st) k n := by
  obtain ⟨p, l, e, R, s, m, args, below, meth, c, E, ad0, n0, Q, rfl, ⟨hx, hb, hml, hown, hts, hK, hO, hA, hn0, had, hnm⟩, hR⟩ := F
  intro ad H locs ls a1 a2 a3 a4 a5 a6 a7 a8 a9
  exact lv_icmp_le (x := x) (y := y) hx hb hd ht (fun h => (kt h ad H locs ls a1 a2 a3 (sk_tail (sk_tail a4)) a5 a6 a7 a8 a9)) (fun h => (kf h ad H locs ls a1 a2 a3 (sk_tail (sk_tail a4)) a5 a6 a7 a8 a9))
theorem g_if_le (F : sk_F M d kc ks Z) {x : Int32} {off : Int} {tgt : Nat} (hd : decode M.2.1 pc = .ok (.ifCond .le off, 3)) (ht : (pc : Int) + off = (tgt : Int)) (kt : x ≤ 0 → Z w tgt lv st k n) (kf : ¬ (x ≤ 0) → Z w (pc + 3) lv st k n) : Z w pc lv (.int x :: st) k n := by
  obtain ⟨p, l, e, R, s, m, args, below, meth, c, E, ad0, n0, Q, rfl, ⟨hx, hb, hml, hown, hts, hK, hO, hA, hn0, had, hnm⟩, hR⟩ := F
  intro ad H locs ls a1 a2 a3 a4 a5 a6 a7 a8 a9
  exact lv_if_le (x := x) hx hb hd ht (fun h => (kt h ad H locs ls a1 a2 a3 (sk_tail a4) a5 a6 a7 a8 a9)) (fun h => (kf h ad H locs ls a1 a2 a3 (sk_tail a4) a5 a6 a7 a8 a9))
theorem g_goto (F : sk_F M d kc ks Z) {off : Int} {tgt : Nat} (hd : decode M.2.1 pc = .ok (.goto off, 3)) (ht : (pc : Int) + off = (tgt : Int)) (h : Z w tgt lv st k n) : Z w pc lv st k n := by
  obtain ⟨p, l, e, R, s, m, args, below, meth, c, E, ad0, n0, Q, rfl, ⟨hx, hb, hml, hown, hts, hK, hO, hA, hn0, had, hnm⟩, hR⟩ := F
  intro ad H locs ls a1 a2 a3 a4 a5 a6 a7 a8 a9
  exact lv_goto hx hb hd ht (h ad H locs ls a1 a2 a3 a4 a5 a6 a7 a8 a9)
theorem g_ifnull (F : sk_F M d kc ks Z) {x : Nat} {off : Int} (hd : decode M.2.1 pc = .ok (.ifnull off, 3)) (h : Z w (pc + 3) lv st k n) : Z w pc lv (.ref x :: st) k n := by
  obtain ⟨p, l, e, R, s, m, args, below, meth, c, E, ad0, n0, Q, rfl, ⟨hx, hb, hml, hown, hts, hK, hO, hA, hn0, had, hnm⟩, hR⟩ := F
  intro ad H locs ls a1 a2 a3 a4 a5 a6 a7 a8 a9
  exact lv_ifnull hx hb hd (h ad H locs ls a1 a2 a3 (sk_tail a4) a5 a6 a7 a8 a9)
theorem g_ifnullN (F : sk_F M d kc ks Z) {off : Int} {tgt : Nat} (hd : decode M.2.1 pc = .ok (.ifnull off, 3)) (ht : (pc : Int) + off = (tgt : Int)) (h : Z w tgt lv st k n) : Z w pc lv (.null :: st) k n := by
  obtain ⟨p, l, e, R, s, m, args, below, meth, c, E, ad0, n0, Q, rfl, ⟨hx, hb, hml, hown, hts, hK, hO, hA, hn0, had, hnm⟩, hR⟩ := F
  intro ad H locs ls a1 a2 a3 a4 a5 a6 a7 a8 a9
  exact lv_ifnullN hx hb hd ht (h ad H locs ls a1 a2 a3 (sk_tail a4) a5 a6 a7 a8 a9)
theorem g_ifnonnull (F : sk_F M d kc ks Z) {x : Nat} {off : Int} {tgt : Nat} (hd : decode M.2.1 pc = .ok (.ifnonnull off, 3)) (ht : (pc : Int) + off = (tgt : Int)) (h : Z w tgt lv st k n) : Z w pc lv (.ref x :: st) k n := by
  obtain ⟨p, l, e, R, s, m, args, below, meth, c, E, ad0, n0, Q, rfl, ⟨hx, hb, hml, hown, hts, hK, hO, hA, hn0, had, hnm⟩, hR⟩ := F
  intro ad H locs ls a1 a2 a3 a4 a5 a6 a7 a8 a9
  exact lv_ifnonnull hx hb hd ht (h ad H locs ls a1 a2 a3 (sk_tail a4) a5 a6 a7 a8 a9)
theorem g_ifnonnullN (F : sk_F M d kc ks Z) {off : Int} (hd : decode M.2.1 pc = .ok (.ifnonnull off, 3)) (h : Z w (pc + 3) lv st k n) : Z w pc lv (.null :: st) k n := by
  obtain ⟨p, l, e, R, s, m, args, below, meth, c, E, ad0, n0, Q, rfl, ⟨hx, hb, hml, hown, hts, hK, hO, hA, hn0, had, hnm⟩, hR⟩ := F
  intro ad H locs ls a1 a2 a3 a4 a5 a6 a7 a8 a9
  exact lv_ifnonnullN hx hb hd (h ad H locs ls a1 a2 a3 (sk_tail a4) a5 a6 a7 a8 a9)
theorem g_tableOut (F : sk_F M d kc ks Z) {x : Int32} {dflt lo hi : Int} {offs : Array Int} {len tgt : Nat} (hd : decode M.2.1 pc = .ok (.tableswitch dflt lo hi offs, len)) (hc : x.toInt < lo ∨ hi < x.toInt) (ht : (pc : Int) + dflt = (tgt : Int)) (h : Z w tgt lv st k n) : Z w pc lv (.int x :: st) k n := by
  obtain ⟨p, l, e, R, s, m, args, below, meth, c, E, ad0, n0, Q, rfl, ⟨hx, hb, hml, hown, hts, hK, hO, hA, hn0, had, hnm⟩, hR⟩ := F
  intro ad H locs ls a1 a2 a3 a4 a5 a6 a7 a8 a9
  exact lv_tableOut hx hb hd hc ht (h ad H locs ls a1 a2 a3 (sk_tail a4) a5 a6 a7 a8 a9)
theorem g_tableIn (F : sk_F M d kc ks Z) {x : Int32} {dflt lo hi off : Int} {offs : Array Int} {len tgt : Nat} (hd : decode M.2.1 pc = .ok (.tableswitch dflt lo hi offs, len)) (h1 : ¬ x.toInt < lo) (h2 : ¬ hi < x.toInt) (ho : offs[(x.toInt - lo).toNat]? = some off) (ht : (pc : Int) + off = (tgt : Int)) (h : Z w tgt lv st k n) : Z w pc lv (.int x :: st) k n := by
  obtain ⟨p, l, e, R, s, m, args, below, meth, c, E, ad0, n0, Q, rfl, ⟨hx, hb, hml, hown, hts, hK, hO, hA, hn0, had, hnm⟩, hR⟩ := F
  intro ad H locs ls a1 a2 a3 a4 a5 a6 a7 a8 a9
  exact lv_tableIn hx hb hd h1 h2 ho ht (h ad H locs ls a1 a2 a3 (sk_tail a4) a5 a6 a7 a8 a9)
end SKR
end
section

def sk_fl (own : String) (idx ci f : Nat) : Prop := ∃ (C : String) (T : u_T) (N : Nat), vwCl[ci]? = some (C, T, N) ∧ (∀ x ∈ u_ws C T N, x ∈ sk_ws) ∧ f < N ∧ Cond.fieldLink own idx (T f).1 (T f).2.1 (T f).2.2.1 ∈ sk_ws
def sk_cl (ci : Nat) : Prop := ∃ (C : String) (T : u_T) (N : Nat) (ty : Nat → FieldType), vwCl[ci]? = some (C, T, N) ∧ (∀ x ∈ u_ws C T N, x ∈ sk_ws) ∧ (∀ k, k < N → parseFieldDescriptor (T k).2.2.1 = some (ty k)) ∧ (∀ a, a < N → ∀ b, b < N → a ≠ b → (T a).2.1 ≠ (T b).2.1)
def sk_fp (M : sk_M) (idx ci f : Nat) (ty : FieldType) : Prop := ∃ (C : String) (T : u_T) (N : Nat), vwCl[ci]? = some (C, T, N) ∧ f < N ∧ Cond.fieldLink M.1.cls idx (T f).1 (T f).2.1 (T f).2.2.1 ∈ sk_ws ∧ ((T f).2.2.2 = false ∨ ((T f).2.2.2 = true ∧ M.1.name = "<init>" ∧ (T f).1 = M.1.cls)) ∧ parseFieldDescriptor (T f).2.2.1 = some ty
theorem sk_nd {ci : Nat} {fs : List Value} {r : vw_C} (h : vwCl[ci]? = some r) : (Sum.inr (Sum.inr (ci, fs)) : sk_C) ≠ sk_dum := by
  intro e
  have h1 : ci = 999 := by injection e with e; injection e with e; exact congrArg Prod.fst e
  have h2 := (List.getElem?_eq_some_iff.mp h).1
  rw [h1] at h2
  exact absurd h2 (by decide +kernel)
theorem sk_nd1 {a : Nat × List Int32} : (Sum.inl a : sk_C) ≠ sk_dum := fun e => by cases e
theorem sk_nd2 {a : Nat × List (Option Nat)} : (Sum.inr (Sum.inl a) : sk_C) ≠ sk_dum := fun e => by injection e with e; cases e
theorem sk_ty {tc : Nat → ClassId} {t : Nat} {ty : FieldType} (h : sk_tys[t]? = some ty) : (sk_t tc)[t]? = some (tc t, ty) := by
  unfold sk_t
  rw [List.getElem?_mapIdx, h]
  rfl
theorem sk_upd {L : List Int32} {j : Nat} {v : Int32} (h : j < L.length) : upd (fun i => L.getD i 0) j v = fun i => (L.set j v).getD i 0 := by
  funext i
  unfold upd
  by_cases hi : i = j
  · subst hi
    rw [if_pos rfl, List.getD_eq_getElem?_getD, List.getElem?_set_self h]
    rfl
  · rw [if_neg hi]
    show L.getD i 0 = _
    rw [List.getD_eq_getElem?_getD, List.getD_eq_getElem?_getD, List.getElem?_set_ne (Ne.symm hi)]
theorem sk_upq {ad : Nat → Nat} {L : List (Option Nat)} {j : Nat} {v : Option Nat} (h : j < L.length) : va_up (fun i => (L.getD i none).map ad) j (v.map ad) = fun i => ((L.set j v).getD i none).map ad := by
  funext i
  unfold va_up
  by_cases hi : i = j
  · subst hi
    rw [if_pos rfl, List.getD_eq_getElem?_getD, List.getElem?_set_self h]
    rfl
  · rw [if_neg hi]
    show Option.map ad (L.getD i none) = _
    rw [List.getD_eq_getElem?_getD, List.getD_eq_getElem?_getD, List.getElem?_set_ne (Ne.symm hi)]
theorem sk_lt {w : sk_H} {i : Nat} {c : sk_C} (h : w[i]? = some c) : i < w.length := (List.getElem?_eq_some_iff.mp h).1
section SKH

variable {M : sk_M} {d kc ks : Nat} {Po : Option Value → sk_H → Prop} {Z : sk_P} {w : sk_H} {pc : Nat} {lv lv' : List (Nat × Value)} {st : List Value} {k n : Nat}

theorem g_get (F : sk_F M d kc ks Z) {idx ci f i : Nat} {fs : List Value} {v : Value} (hd : decode M.2.1 pc = .ok (.getfield idx, 3)) (hf : sk_fl M.1.cls idx ci f) (he : w[i]? = some (.inr (.inr (ci, fs)))) (hv : fs[f]? = some v) (h : Z w (pc + 3) lv (v :: st) k n) : Z w pc lv (.ref i :: st) k n := by
  obtain ⟨p, l, e, R, s, m, args, below, meth, c, E, ad0, n0, Q, rfl, ⟨hx, hb, hml, hown, hts, hK, hO, hA, hn0, had, hnm⟩, hR⟩ := F
  intro ad H locs ls a1 a2 a3 a4 a5 a6 a7 a8 a9
  obtain ⟨C, T, N, h1, h2, h3, h4⟩ := hf
  have hg := sk_ge a2 he (sk_nd h1)
  have hat := sk_w_at (tc := eT E) (ad := ad) he hg
  refine va_get (ref := (T f).1) (v := sk_v ad v) hx hb hts h2 hown hK a7 (i - sk_k) hat h1 f h3 (hts _ h4) (fun _ h9 => h9) (by rw [List.getElem?_map, hv]; rfl) hd ?_
  exact h ad H locs ls a1 a2 a3 (sk_cons (a2.2 _ (List.mem_of_getElem? he) v (List.mem_of_getElem? hv)) (sk_tail a4)) a5 a6 a7 a8 a9
theorem g_put (F : sk_F M d kc ks Z) {idx ci f i : Nat} {ty : FieldType} {fs : List Value} {v : Value} (hd : decode M.2.1 pc = .ok (.putfield idx, 3)) (hc : sk_cl ci) (hf : sk_fp M idx ci f ty) (he : w[i]? = some (.inr (.inr (ci, fs)))) (hl : f < fs.length) (hn : ∀ ad, narrow ty (sk_v ad v) = sk_v ad v) (hfit : ∀ ad, fits ty (sk_v ad v) = true)
    (h : Z (w.set i (.inr (.inr (ci, fs.set f v)))) (pc + 3) lv st k n) : Z w pc lv (v :: .ref i :: st) k n := by
  obtain ⟨p, l, e, R, s, m, args, below, meth, c, E, ad0, n0, Q, rfl, ⟨hx, hb, hml, hown, hts, hK, hO, hA, hn0, had, hnm⟩, hR⟩ := F
  intro ad H locs ls a1 a2 a3 a4 a5 a6 a7 a8 a9
  obtain ⟨C, T, N, ty0, g1, g2, g3, g4⟩ := hc
  obtain ⟨C', T', N', h1, h3, h4, h5, h6⟩ := hf
  cases g1.symm.trans h1
  have hg := sk_ge a2 he (sk_nd h1)
  have hat := sk_w_at (tc := eT E) (ad := ad) he hg
  have hset : sk_w (eT E) ad (w.set i (.inr (.inr (ci, fs.set f v)))) = (sk_w (eT E) ad w).set (i - sk_k) (ad i, .inr (ci, (fs.map (sk_v ad)).set f (sk_v ad v))) := by
    rw [sk_w_set hg]
    show _ = (sk_w (eT E) ad w).set (i - sk_k) (ad i, .inr (ci, (fs.map (sk_v ad)).set f (sk_v ad v)))
    rw [← List.map_set]
    rfl
  have hw : sk_oW (w.set i (.inr (.inr (ci, fs.set f v)))) := by
    refine sk_oW_set a2 hg ?_
    intro x hx9
    rcases List.mem_or_eq_of_mem_set hx9 with h9 | h9
    · exact a2.2 _ (List.mem_of_getElem? he) x h9
    · rw [h9]; exact sk_hd a4
  have hk : ∀ (H1 : Heap) (locs1 : List Loc), va_P (eD E) vwCl ((sk_w (eT E) ad w).set (i - sk_k) (ad i, .inr (ci, (fs.map (sk_v ad)).set f (sk_v ad v)))) H1 → va_D (eA E) ((sk_w (eT E) ad w).set (i - sk_k) (ad i, .inr (ci, (fs.map (sk_v ad)).set f (sk_v ad v)))) → va_S (eA E) s.heap H1 locs1 → W p l e R s m args below meth c H1 locs1 k n Q (F0 m (pc + 3) ls (st.map (sk_v ad))) := by
    intro H1 locs1 b1 b2 b3
    rw [← hset] at b1 b2
    exact h ad H1 locs1 ls (by rw [List.length_set]; exact a1) hw (by rw [List.length_set]; exact a3) (by rw [List.length_set]; exact sk_tail (sk_tail a4)) a5 a6 b1 b2 b3
  rcases h5 with h5 | ⟨h5, h7, h8⟩
  · exact va_put (ref := (T f).1) (v := sk_v ad v) hx hb hts g2 ty0 g3 g4 hown hK a7 a8 a9 (i - sk_k) hat h1 f h3 (hts _ h4) (fun _ h9 => h9) h5 h6 (hn ad) (hfit ad) (by rw [List.length_map]; exact hl) hd hk
  · exact va_putF (ref := (T f).1) (v := sk_v ad v) hx hb hts g2 ty0 g3 g4 hown hK a7 a8 a9 (i - sk_k) hat h1 f h3 (hts _ h4) (fun _ h9 => h9) h5 (hnm.trans h7) h8 h6 (hn ad) (hfit ad) (by rw [List.length_map]; exact hl) hd hk
theorem g_iald (F : sk_F M d kc ks Z) {i t j : Nat} {L : List Int32} {x : Int32} (hd : decode M.2.1 pc = .ok (.iaload, 1)) (he : w[i]? = some (.inl (t, L))) (ht : sk_tys[t]? = some .int) (hin : vp_in x L.length) (hj : x.toNatClampNeg = j) (h : Z w (pc + 1) lv (.int (L.getD j 0) :: st) k n) : Z w pc lv (.int x :: .ref i :: st) k n := by
  obtain ⟨p, l, e, R, s, m, args, below, meth, c, E, ad0, n0, Q, rfl, ⟨hx, hb, hml, hown, hts, hK, hO, hA, hn0, had, hnm⟩, hR⟩ := F
  intro ad H locs ls a1 a2 a3 a4 a5 a6 a7 a8 a9
  have hg := sk_ge a2 he sk_nd1
  have hat := sk_w_at (tc := eT E) (ad := ad) he hg
  subst hj
  exact va_iald hx hb hK a7 (i - sk_k) t hat (sk_ty ht) hin hd (h ad H locs ls a1 a2 a3 (sk_cons sk_oV_int (sk_tail (sk_tail a4))) a5 a6 a7 a8 a9)
theorem g_zald (F : sk_F M d kc ks Z) {i t j : Nat} {L : List Int32} {x : Int32} (hd : decode M.2.1 pc = .ok (.baload, 1)) (he : w[i]? = some (.inl (t, L))) (ht : sk_tys[t]? = some .boolean) (hin : vp_in x L.length) (hj : x.toNatClampNeg = j) (h : Z w (pc + 1) lv (.int (L.getD j 0) :: st) k n) : Z w pc lv (.int x :: .ref i :: st) k n := by
  obtain ⟨p, l, e, R, s, m, args, below, meth, c, E, ad0, n0, Q, rfl, ⟨hx, hb, hml, hown, hts, hK, hO, hA, hn0, had, hnm⟩, hR⟩ := F
  intro ad H locs ls a1 a2 a3 a4 a5 a6 a7 a8 a9
  have hg := sk_ge a2 he sk_nd1
  have hat := sk_w_at (tc := eT E) (ad := ad) he hg
  subst hj
  exact va_zald hx hb hK a7 (i - sk_k) t hat (sk_ty ht) hin hd (h ad H locs ls a1 a2 a3 (sk_cons sk_oV_int (sk_tail (sk_tail a4))) a5 a6 a7 a8 a9)
theorem sk_in {x : Int32} {N : Nat} (h : vp_in x N) : x.toNatClampNeg < N := Nat.not_le.mp (fun z => h (Or.inr z))
theorem g_iast (F : sk_F M d kc ks Z) {i t j : Nat} {L : List Int32} {x v : Int32} (hd : decode M.2.1 pc = .ok (.iastore, 1)) (he : w[i]? = some (.inl (t, L))) (ht : sk_tys[t]? = some .int) (hin : vp_in x L.length) (hj : x.toNatClampNeg = j) (h : Z (w.set i (.inl (t, L.set j v))) (pc + 1) lv st k n) : Z w pc lv (.int v :: .int x :: .ref i :: st) k n := by
  obtain ⟨p, l, e, R, s, m, args, below, meth, c, E, ad0, n0, Q, rfl, ⟨hx, hb, hml, hown, hts, hK, hO, hA, hn0, had, hnm⟩, hR⟩ := F
  intro ad H locs ls a1 a2 a3 a4 a5 a6 a7 a8 a9
  have hg := sk_ge a2 he sk_nd1
  have hat := sk_w_at (tc := eT E) (ad := ad) he hg
  subst hj
  have hset : sk_w (eT E) ad (w.set i (.inl (t, L.set x.toNatClampNeg v))) = (sk_w (eT E) ad w).set (i - sk_k) (ad i, .inl (eT E t, L.length, .inl (upd (fun q => L.getD q 0) x.toNatClampNeg v))) := by
    rw [sk_w_set hg, sk_upd (sk_in hin)]
    show (sk_w (eT E) ad w).set (i - sk_k) (ad i, .inl (eT E t, (L.set x.toNatClampNeg v).length, .inl (fun q => (L.set x.toNatClampNeg v).getD q 0))) = _
    rw [List.length_set]
  refine va_iast hx hb hK a7 a8 a9 (i - sk_k) t hat (sk_ty ht) hin hd (fun H1 locs1 b1 b2 b3 => ?_)
  rw [← hset] at b1 b2
  exact h ad H1 locs1 ls (by rw [List.length_set]; exact a1) (sk_oW_set a2 hg trivial) (by rw [List.length_set]; exact a3) (by rw [List.length_set]; exact sk_tail (sk_tail (sk_tail a4))) a5 a6 b1 b2 b3
theorem g_zast (F : sk_F M d kc ks Z) {i t j : Nat} {L : List Int32} {x v : Int32} (hd : decode M.2.1 pc = .ok (.bastore, 1)) (he : w[i]? = some (.inl (t, L))) (ht : sk_tys[t]? = some .boolean) (hin : vp_in x L.length) (hj : x.toNatClampNeg = j) (hv : vp_nar .boolean v = v) (h : Z (w.set i (.inl (t, L.set j v))) (pc + 1) lv st k n) : Z w pc lv (.int v :: .int x :: .ref i :: st) k n := by
  obtain ⟨p, l, e, R, s, m, args, below, meth, c, E, ad0, n0, Q, rfl, ⟨hx, hb, hml, hown, hts, hK, hO, hA, hn0, had, hnm⟩, hR⟩ := F
  intro ad H locs ls a1 a2 a3 a4 a5 a6 a7 a8 a9
  have hg := sk_ge a2 he sk_nd1
  have hat := sk_w_at (tc := eT E) (ad := ad) he hg
  subst hj
  have hset : sk_w (eT E) ad (w.set i (.inl (t, L.set x.toNatClampNeg v))) = (sk_w (eT E) ad w).set (i - sk_k) (ad i, .inl (eT E t, L.length, .inl (upd (fun q => L.getD q 0) x.toNatClampNeg v))) := by
    rw [sk_w_set hg, sk_upd (sk_in hin)]
    show (sk_w (eT E) ad w).set (i - sk_k) (ad i, .inl (eT E t, (L.set x.toNatClampNeg v).length, .inl (fun q => (L.set x.toNatClampNeg v).getD q 0))) = _
    rw [List.length_set]
  refine va_zast hx hb hK a7 a8 a9 (i - sk_k) t hat (sk_ty ht) hin hd (fun H1 locs1 b1 b2 b3 => ?_)
  rw [hv, ← hset] at b1 b2
  exact h ad H1 locs1 ls (by rw [List.length_set]; exact a1) (sk_oW_set a2 hg trivial) (by rw [List.length_set]; exact a3) (by rw [List.length_set]; exact sk_tail (sk_tail (sk_tail a4))) a5 a6 b1 b2 b3
theorem g_aald (F : sk_F M d kc ks Z) {i t j r : Nat} {C : String} {L : List (Option Nat)} {x : Int32} (hd : decode M.2.1 pc = .ok (.aaload, 1)) (he : w[i]? = some (.inr (.inl (t, L)))) (ht : sk_tys[t]? = some (.object C)) (hin : vp_in x L.length) (hj : x.toNatClampNeg = j) (hr : L[j]? = some (some r)) (h : Z w (pc + 1) lv (.ref r :: st) k n) : Z w pc lv (.int x :: .ref i :: st) k n := by
  obtain ⟨p, l, e, R, s, m, args, below, meth, c, E, ad0, n0, Q, rfl, ⟨hx, hb, hml, hown, hts, hK, hO, hA, hn0, had, hnm⟩, hR⟩ := F
  intro ad H locs ls a1 a2 a3 a4 a5 a6 a7 a8 a9
  have hg := sk_ge a2 he sk_nd2
  have hat := sk_w_at (tc := eT E) (ad := ad) he hg
  subst hj
  refine va_aldq hx hb hK a7 (i - sk_k) t hat (sk_ty ht) hin hd ?_
  rw [List.getD_eq_getElem?_getD, hr]
  exact h ad H locs ls a1 a2 a3 (sk_cons (sk_oV_ref (a2.2 _ (List.mem_of_getElem? he) r (List.mem_of_getElem? hr))) (sk_tail (sk_tail a4))) a5 a6 a7 a8 a9
theorem g_aast (F : sk_F M d kc ks Z) {i t j v ci : Nat} {C : String} {T : u_T} {N : Nat} {fs : List Value} {L : List (Option Nat)} {x : Int32} (hd : decode M.2.1 pc = .ok (.aastore, 1)) (he : w[i]? = some (.inr (.inl (t, L)))) (ht : sk_tys[t]? = some (.object C)) (hv : w[v]? = some (.inr (.inr (ci, fs)))) (hc : vwCl[ci]? = some (C, T, N)) (hin : vp_in x L.length) (hj : x.toNatClampNeg = j)
    (h : Z (w.set i (.inr (.inl (t, L.set j (some v))))) (pc + 1) lv st k n) : Z w pc lv (.ref v :: .int x :: .ref i :: st) k n := by
  obtain ⟨p, l, e, R, s, m, args, below, meth, c, E, ad0, n0, Q, rfl, ⟨hx, hb, hml, hown, hts, hK, hO, hA, hn0, had, hnm⟩, hR⟩ := F
  intro ad H locs ls a1 a2 a3 a4 a5 a6 a7 a8 a9
  have hg := sk_ge a2 he sk_nd2
  have hg2 := sk_ge a2 hv (sk_nd hc)
  have hat := sk_w_at (tc := eT E) (ad := ad) he hg
  have hat2 := sk_w_at (tc := eT E) (ad := ad) hv hg2
  subst hj
  have hset : sk_w (eT E) ad (w.set i (.inr (.inl (t, L.set x.toNatClampNeg (some v))))) = (sk_w (eT E) ad w).set (i - sk_k) (ad i, .inl (eT E t, L.length, .inr (.inr (.inr (.inr (va_up (fun q => (L.getD q none).map ad) x.toNatClampNeg (some (ad v)))))))) := by
    rw [sk_w_set hg, show (some (ad v) : Option Nat) = (some v).map ad from rfl, sk_upq (sk_in hin)]
    show (sk_w (eT E) ad w).set (i - sk_k) (ad i, .inl (eT E t, (L.set x.toNatClampNeg (some v)).length, .inr (.inr (.inr (.inr (fun q => ((L.set x.toNatClampNeg (some v)).getD q none).map ad)))))) = _
    rw [List.length_set]
  refine va_astq hx hb hK a7 a8 a9 (i - sk_k) t (v - sk_k) ci (r := (C, T, N)) hat (sk_ty ht) hat2 hc hin hd (fun H1 locs1 b1 b2 b3 => ?_)
  rw [← hset] at b1 b2
  refine h ad H1 locs1 ls (by rw [List.length_set]; exact a1) (sk_oW_set a2 hg ?_) (by rw [List.length_set]; exact a3) (by rw [List.length_set]; exact sk_tail (sk_tail (sk_tail a4))) a5 a6 b1 b2 b3
  intro z hz
  rcases List.mem_or_eq_of_mem_set hz with h9 | h9
  · exact a2.2 _ (List.mem_of_getElem? he) z h9
  · cases h9; exact sk_lt hv
theorem g_alen1 (F : sk_F M d kc ks Z) {i t : Nat} {ty : FieldType} {L : List Int32} (hd : decode M.2.1 pc = .ok (.arraylength, 1)) (he : w[i]? = some (.inl (t, L))) (ht : sk_tys[t]? = some ty) (h : Z w (pc + 1) lv (.int (nI L.length) :: st) k n) : Z w pc lv (.ref i :: st) k n := by
  obtain ⟨p, l, e, R, s, m, args, below, meth, c, E, ad0, n0, Q, rfl, ⟨hx, hb, hml, hown, hts, hK, hO, hA, hn0, had, hnm⟩, hR⟩ := F
  intro ad H locs ls a1 a2 a3 a4 a5 a6 a7 a8 a9
  have hg := sk_ge a2 he sk_nd1
  have hat := sk_w_at (tc := eT E) (ad := ad) he hg
  exact va_alen hx hb hK a7 (i - sk_k) t hat (sk_ty ht) rfl hd (h ad H locs ls a1 a2 a3 (sk_cons sk_oV_int (sk_tail a4)) a5 a6 a7 a8 a9)
theorem g_alen2 (F : sk_F M d kc ks Z) {i t : Nat} {ty : FieldType} {L : List (Option Nat)} (hd : decode M.2.1 pc = .ok (.arraylength, 1)) (he : w[i]? = some (.inr (.inl (t, L)))) (ht : sk_tys[t]? = some ty) (h : Z w (pc + 1) lv (.int (nI L.length) :: st) k n) : Z w pc lv (.ref i :: st) k n := by
  obtain ⟨p, l, e, R, s, m, args, below, meth, c, E, ad0, n0, Q, rfl, ⟨hx, hb, hml, hown, hts, hK, hO, hA, hn0, had, hnm⟩, hR⟩ := F
  intro ad H locs ls a1 a2 a3 a4 a5 a6 a7 a8 a9
  have hg := sk_ge a2 he sk_nd2
  have hat := sk_w_at (tc := eT E) (ad := ad) he hg
  exact va_alen hx hb hK a7 (i - sk_k) t hat (sk_ty ht) rfl hd (h ad H locs ls a1 a2 a3 (sk_cons sk_oV_int (sk_tail a4)) a5 a6 a7 a8 a9)
/-- what a new cell does to the tie between indices and addresses -/
def sk_up (ad : Nat → Nat) (i q : Nat) : Nat → Nat := fun j => if j = i then q else ad j
theorem sk_up_lt {ad : Nat → Nat} {i q j : Nat} (h : j < i) : sk_up ad i q j = ad j := if_neg (by omega)
theorem sk_up_self {ad : Nat → Nat} {i q : Nat} : sk_up ad i q i = q := if_pos rfl
theorem sk_map_up {ad : Nat → Nat} {q N : Nat} {st : List Value} (h : ∀ v ∈ st, sk_oV N v) : st.map (sk_v (sk_up ad N q)) = st.map (sk_v ad) := List.map_congr_left (fun v hv => sk_v_agree (fun i hi => sk_up_lt hi) (h v hv))
theorem sk_l_up {ad : Nat → Nat} {q N : Nat} {lv : List (Nat × Value)} (h : ∀ x ∈ lv, sk_oV N x.2) : sk_l (sk_up ad N q) lv = sk_l ad lv := List.map_congr_left (fun v hv => by rw [sk_v_agree (fun i hi => sk_up_lt hi) (h v hv)])
/-- a new cell, whatever it is: the state goes on with the longer world -/
theorem sk_born {p : Program} {l : Launch} {e : Env} {R : Room} {s : State} {m : MethodId} {args : Array Value} {below : List Frame} {meth : Method} {c : Code} {E : sk_E} {ad0 ad : Nat → Nat} {n0 q : Nat} {Q : State → Prop} {x : sk_C} {pc' k' n' : Nat} {H1 : Heap} {locs : List Loc} {ls : Array Slot} {st' : List Value}
    (h : sk_G p l e R s m args below meth c M.2.2.1 E ad0 n0 Q (w ++ [x]) pc' lv (.ref w.length :: st') k' n') (hx : sk_oC w.length x) (a1 : n0 ≤ w.length) (a2 : sk_oW w) (a3 : ∀ q ∈ lv, sk_oV w.length q.2) (a4 : ∀ v ∈ st', sk_oV w.length v) (a5 : ∀ i, i < n0 → ad i = ad0 i) (a6 : lv_has ls M.2.2.1 (sk_l ad lv))
    (b1 : va_P (eD E) vwCl (sk_w (eT E) ad w ++ [(q, sk_c (eT E) ad x)]) H1) (b2 : va_D (eA E) (sk_w (eT E) ad w ++ [(q, sk_c (eT E) ad x)])) (b3 : va_S (eA E) s.heap H1 locs) :
    W p l e R s m args below meth c H1 locs k' n' Q (F0 m pc' ls (.ref q :: st'.map (sk_v ad))) := by
  have ha : ∀ i, i < w.length → sk_up ad w.length q i = ad i := fun i hi => sk_up_lt hi
  have e1 : sk_w (eT E) (sk_up ad w.length q) (w ++ [x]) = sk_w (eT E) ad w ++ [(q, sk_c (eT E) ad x)] := by
    rw [sk_w_push a2 (sk_oW_len a2) ha, sk_up_self, sk_c_agree ha hx]
  have hlen : (w ++ [x]).length = w.length + 1 := by rw [List.length_append, List.length_singleton]
  have h2 := h (sk_up ad w.length q) H1 locs ls (by rw [hlen]; omega) (sk_oW_push a2 (sk_oC_mono hx (Nat.le_succ _))) (fun z hz => by rw [hlen]; exact sk_oV_mono (a3 z hz) (Nat.le_succ _)) (sk_cons (by rw [hlen]; exact sk_oV_ref (Nat.lt_succ_self _)) (fun v hv => by rw [hlen]; exact sk_oV_mono (a4 v hv) (Nat.le_succ _)))
    (fun i hi => by rw [ha i (by omega)]; exact a5 i hi) (by rw [sk_l_up a3]; exact a6) (by rw [e1]; exact b1) (by rw [e1]; exact b2) b3
  have e2 : (Value.ref w.length :: st').map (sk_v (sk_up ad w.length q)) = .ref q :: st'.map (sk_v ad) := by
    rw [List.map_cons, sk_map_up a4]
    show Value.ref (sk_up ad w.length q w.length) :: _ = _
    rw [sk_up_self]
  rw [e2] at h2
  exact h2
def sk_nw (own : String) (idx ci : Nat) (fs : List Value) : Prop := ∃ (C : String) (T : u_T) (N : Nat) (ty : Nat → FieldType), vwCl[ci]? = some (C, T, N) ∧ (∀ x ∈ u_ws C T N, x ∈ sk_ws) ∧ (∀ k, k < N → parseFieldDescriptor (T k).2.2.1 = some (ty k)) ∧ Cond.classLink own idx C ∈ sk_ws ∧ Cond.instantiable C N ∈ sk_ws ∧ Cond.initialized C ∈ sk_ws ∧ fs.length = N ∧ (∀ j, j < N → defaultValue (ty j) = vp_V fs j) ∧ ∀ v ∈ fs, ∀ i, v ≠ .ref i
theorem g_new (F : sk_F M d kc ks Z) {idx ci : Nat} {fs : List Value} (hd : decode M.2.1 pc = .ok (.new idx, 3)) (hw : sk_nw M.1.cls idx ci fs) (hk : k + 1 ≤ kc) (hn : n + fs.length ≤ ks) (h : Z (w ++ [.inr (.inr (ci, fs))]) (pc + 3) lv (.ref w.length :: st) (k + 1) (n + fs.length)) : Z w pc lv st k n := by
  obtain ⟨p, l, e, R, s, m, args, below, meth, c, E, ad0, n0, Q, rfl, ⟨hx, hb, hml, hown, hts, hK, hO, hA, hn0, had, hnm⟩, hR⟩ := F
  intro ad H locs ls a1 a2 a3 a4 a5 a6 a7 a8 a9
  obtain ⟨C, T, N, ty, h1, h2, h3, h4, h5, h6, h7, h8, h9⟩ := hw
  subst h7
  have e1 : fs.map (sk_v ad) = fs := by
    conv => rhs; rw [← List.map_id fs]
    exact List.map_congr_left (fun v hv => by
      cases v with
      | ref i => exact absurd rfl (h9 _ hv i)
      | _ => rfl)
  refine va_new (fs := fs) hx hb hts h2 ty h3 hown (hts _ h4) (hts _ h5) (hts _ h6) hK a7 a8 a9 hA h1 h8 (Nat.le_trans hk hR.2.1) (Nat.le_trans hn hR.2.2.1) hd (fun q H1 b1 b2 b3 => ?_)
  have e2 : sk_c (eT E) ad (.inr (.inr (ci, fs))) = .inr (ci, fs) := by
    show Sum.inr (ci, fs.map (sk_v ad)) = _
    rw [e1]
  rw [← e2] at b1 b2
  exact sk_born h (fun v hv i e => absurd e (h9 v hv i)) a1 a2 a3 a4 a5 a6 b1 b2 b3
end SKH
end
section

section SKN

variable {M M' : sk_M} {d d' kc ks kc' ks' : Nat} {Po Po' : Option Value → sk_H → Prop} {Z : sk_P} {w : sk_H} {pc : Nat} {lv lv' : List (Nat × Value)} {st stk As : List Value} {k n : Nat}

theorem sk_rep0 (N j : Nat) : (List.replicate N (0 : Int32)).getD j 0 = 0 := by
  rw [List.getD_eq_getElem?_getD, List.getElem?_replicate]
  split <;> rfl
theorem sk_repn (N j : Nat) : (List.replicate N (none : Option Nat)).getD j none = none := by
  rw [List.getD_eq_getElem?_getD, List.getElem?_replicate]
  split <;> rfl
theorem g_newa (F : sk_F M d kc ks Z) {at_ : ArrayType} {t N : Nat} {ty : FieldType} {x : Int32} (hd : decode M.2.1 pc = .ok (.newarray at_, 2)) (hty : newarray.typeOf at_ = ty) (hw : Cond.arrayClass ty ∈ sk_ws) (ht : sk_tys[t]? = some ty) (hdef : defaultValue ty = .int 0) (hra : ∀ (U : State) (q : ClassId), va_RA U q ty → U.vm.findClass ("[" ++ ty.toString) = some q)
    (h0 : ¬ x < 0) (hN : x.toNatClampNeg = N) (hby : N * componentBytes ty ≤ 536870912) (hk : k + 1 ≤ kc) (hn : n + N ≤ ks) (h : Z (w ++ [.inl (t, List.replicate N 0)]) (pc + 2) lv (.ref w.length :: st) (k + 1) (n + N)) : Z w pc lv (.int x :: st) k n := by
  obtain ⟨p, l, e, R, s, m, args, below, meth, c, E, ad0, n0, Q, rfl, ⟨hx, hb, hml, hown, hts, hK, hO, hA, hn0, had, hnm⟩, hR⟩ := F
  intro ad H locs ls a1 a2 a3 a4 a5 a6 a7 a8 a9
  refine va_newa (a0 := (N, .inl (fun j => (List.replicate N (0 : Int32)).getD j 0))) hx hb (by rw [hty]; exact hts _ hw) hty hK a7 a8 a9 hA (fun cA => ?_) h0 hN hby (Nat.le_trans hk hR.2.1) (Nat.le_trans hn hR.2.2.1) hd (fun q cA H1 b0 b1 b2 b3 => ?_)
  · rw [vp_cell_i, hdef]
    congr 1
    funext j
    rw [sk_rep0]
  · have e1 : cA = eT E t := by
      have g1 := hra _ _ (b0.2 (sk_t (eT E)).length (cA, ty) (by rw [List.getElem?_append_right (Nat.le_refl _), Nat.sub_self]; rfl)).2
      have g2 := hra _ _ (hK.2 t (eT E t, ty) (sk_ty ht)).2
      exact Option.some.inj (g1.symm.trans g2)
    subst e1
    have e2 : sk_c (eT E) ad (.inl (t, List.replicate N 0)) = .inl (eT E t, N, .inl (fun j => (List.replicate N (0 : Int32)).getD j 0)) := by
      show Sum.inl (eT E t, (List.replicate N (0 : Int32)).length, _) = _
      rw [List.length_replicate]
    rw [← e2] at b1 b2
    exact sk_born h trivial a1 a2 a3 (sk_tail a4) a5 a6 b1 b2 b3
theorem g_newq (F : sk_F M d kc ks Z) {idx t N : Nat} {C : String} {x : Int32} (hd : decode M.2.1 pc = .ok (.anewarray idx, 3)) (hw : Cond.classLink M.1.cls idx C ∈ sk_ws) (hC2 : C = "PackShelf$Thing") (ht : sk_tys[t]? = some (.object C))
    (h0 : ¬ x < 0) (hN : x.toNatClampNeg = N) (hby : N * 4 ≤ 536870912) (hk : k + 1 ≤ kc) (hn : n + N ≤ ks) (h : Z (w ++ [.inr (.inl (t, List.replicate N none))]) (pc + 3) lv (.ref w.length :: st) (k + 1) (n + N)) : Z w pc lv (.int x :: st) k n := by
  obtain ⟨p, l, e, R, s, m, args, below, meth, c, E, ad0, n0, Q, rfl, ⟨hx, hb, hml, hown, hts, hK, hO, hA, hn0, had, hnm⟩, hR⟩ := F
  intro ad H locs ls a1 a2 a3 a4 a5 a6 a7 a8 a9
  refine va_newq (C := C) hx hb hown (hts _ hw) (by rw [hC2]; exact oZ_AO hO.2.2.2.2.2) hK a7 a8 a9 hA h0 hN hby (Nat.le_trans hk hR.2.1) (Nat.le_trans hn hR.2.2.1) hd (fun q cA H1 b0 b1 b2 b3 => ?_)
  have e1 : cA = eT E t := by
    obtain ⟨kA, comp, -, -, -, g1⟩ := (b0.2 (sk_t (eT E)).length (cA, .object C) (by rw [List.getElem?_append_right (Nat.le_refl _), Nat.sub_self]; rfl)).2
    obtain ⟨kB, comp2, -, -, -, g2⟩ := (hK.2 t (eT E t, .object C) (sk_ty ht)).2
    exact Option.some.inj (g1.symm.trans g2)
  subst e1
  have e2 : sk_c (eT E) ad (.inr (.inl (t, List.replicate N none))) = .inl (eT E t, N, .inr (.inr (.inr (.inr (fun _ => none))))) := by
    show Sum.inl (eT E t, (List.replicate N (none : Option Nat)).length, _) = _
    rw [List.length_replicate]
    congr 7
    funext j
    show Option.map ad ((List.replicate N (none : Option Nat)).getD j none) = none
    rw [sk_repn]
    rfl
  rw [← e2] at b1 b2
  exact sk_born h (fun i hi => by rw [List.mem_replicate] at hi; cases hi.2) a1 a2 a3 (sk_tail a4) a5 a6 b1 b2 b3
theorem sk_after {p : Program} {l : Launch} {e : Env} {R : Room} {s : State} {m : MethodId} {args : Array Value} {below : List Frame} {meth : Method} {c : Code} {H : Heap} {locs : List Loc} {E : sk_E} {ad : Nat → Nat} {nw mc ms : Nat} {Q : State → Prop} {ls : Array Slot} {st0 rest : List Value} {a : Array Value}
    (hr : va_Run p l e R s m args below meth c H locs k n mc ms (F0 m pc ls st0) rest (sk_Q E ad nw Po' a) (eA E)) (hS : va_S (eA E) s.heap H locs)
    (kk : ∀ (r : Option Value) (w' : sk_H) (ad' : Nat → Nat) (H1 : Heap) (locs1 : List Loc), Po' r w' → nw ≤ w'.length → sk_oW w' → (∀ v, r = some v → sk_oV w'.length v) → (∀ i, i < nw → ad' i = ad i) → va_P (eD E) vwCl (sk_w (eT E) ad' w') H1 → va_D (eA E) (sk_w (eT E) ad' w') → va_S (eA E) s.heap H1 locs1 →
      W p l e R s m args below meth c H1 locs1 (k + mc) (n + ms) Q (F0 m (pc + 3) ls ((r.map (sk_v ad')).toList ++ rest))) : W p l e R s m args below meth c H locs k n Q (F0 m pc ls st0) := by
  intro T hT X
  obtain ⟨v, st₀, t, T', L, h0, X', hL, e1, e2, ⟨⟨r, w', ad', hv, g1, g2, g3, g4, g5, g6, g7⟩, hz, hk⟩, stp⟩ := hr T hT X
  cases hv
  rw [h0] at hz hk
  obtain ⟨t2, b1, b2⟩ := kk r w' ad' T'.heap (locs ++ L) g1 g2 g3 g4 g5 (by rw [e1]; exact g6) g7
    ⟨Nat.le_trans hS.1 (by rw [e1]; exact hz), fun q h1 h2 => by rw [e1, hk q (Nat.lt_of_lt_of_le h1 hS.1) h2]; exact hS.2.1 q h1 h2, fun q hq => by
      rcases List.mem_append.mp hq with h | h
      · exact hS.2.2 q h
      · exact hL q h⟩ T' rfl X'
  exact ⟨t2, stp t2 b1, b2⟩
theorem sk_blind {E : sk_E} {ad : Nat → Nat} {as : List Value} : FrameBlind (va_Pc as (sk_pre E ad w)) := fun a U g mk q => by
  obtain ⟨q0, q1, q2, q3, q4, q5⟩ := q
  exact ⟨q0, q1, q2, va_K.moved (u := U) (U := U.calling g mk a) (Vm.Alike.refl U.vm) q3, q4, sk_old_same (u := U) (U := U.calling g mk a) rfl q5⟩
theorem sk_at {E : sk_E} {ad : Nat → Nat} {as : List Value} {s : State} {H : Heap} {locs : List Loc} (hK : va_K (eD E) vwCl (sk_t (eT E)) s) (hO : sk_old E s s.heap) (hA : ∀ q, s.heap.size ≤ q → eA E q) (a7 : va_P (eD E) vwCl (sk_w (eT E) ad w) H) (a8 : va_D (eA E) (sk_w (eT E) ad w)) (a9 : va_S (eA E) s.heap H locs) : ∀ U : State, U.heap = H → s.WarmedH U.vm → va_Pc as (sk_pre E ad w) as.toArray U := by
  intro U hU hW
  refine ⟨rfl, fun q hq => hA q (Nat.le_trans a9.1 (by rw [hU] at hq; exact hq)), by rw [hU]; exact a7, va_K.moved hW.alike hK, a8, ?_⟩
  rw [hU]
  exact sk_old_kept (sk_old_warm hW hO) a9.1 a9.2.1
theorem sk_goodM (h : Cond.code M'.1 M'.2.1 M'.2.2.1 M'.2.2.2 ∈ sk_ws) : GoodIn sk_ws (Cond.code M'.1 M'.2.1 M'.2.2.1 M'.2.2.2 :: sk_ws) := by
  intro x hx
  rcases List.mem_cons.mp hx with e | e
  · rw [e]; exact ⟨h, Or.inl rfl⟩
  · exact ⟨e, good_of_word (List.mem_filter.mp e).2⟩
def sk_cB (own : String) (idx : Nat) (M : sk_M) : Prop := Cond.methodLink own idx M.1 ∈ sk_ws ∧ Cond.initialized M.1.cls ∈ sk_ws ∧ Cond.code M.1 M.2.1 M.2.2.1 M.2.2.2 ∈ sk_ws ∧ M.1.cls ≠ "java/lang/invoke/MethodHandle" ∧ M.1.cls ≠ "java/lang/invoke/VarHandle" ∧ 19 + M.2.2.1 ≤ 32
def sk_nP (M : sk_M) (q : Nat) : Prop := (parseMethodDescriptor M.1.desc).map (fun d => d.parameters.length) = some q
theorem sk_callB {R : Room} {s : State} {args : Array Value} {own : String} {idx q : Nat} (h : sk_cB own idx M') (hp : sk_nP M' q) (hts : ∀ w ∈ sk_ws, w.before args s = true) (hR : sk_r R d kc ks) (hd : d' + 1 ≤ d) : CallB R s args own idx M'.1 M'.2.1 M'.2.2.1 M'.2.2.2 (Cond.code M'.1 M'.2.1 M'.2.2.1 M'.2.2.2 :: sk_ws) (sk_R d' kc' ks') kc' ks' q :=
  callB_of q hts (sk_goodM h.2.2.1) rfl rfl rfl (hts _ h.2.1) (hts _ h.1) ⟨h.2.2.2.1, h.2.2.2.2.1, hp⟩ ⟨Nat.le_trans hd hR.1, by show 8 + (M'.2.2.1 + 11) + 32 * d' ≤ R.locals; have := h.2.2.2.2.2; have := hR.2.2.2; omega⟩
theorem sk_mapok {N : Nat} {stk : List Value} (e : stk = As.reverse ++ st) (h : ∀ v ∈ stk, sk_oV N v) : (∀ v ∈ As, sk_oV N v) ∧ ∀ v ∈ st, sk_oV N v := by
  subst e
  exact ⟨fun v hv => h v (List.mem_append_left _ (List.mem_reverse.mpr hv)), fun v hv => h v (List.mem_append_right _ hv)⟩
theorem sk_push {N : Nat} {r : Option Value} {st : List Value} (hr : ∀ v, r = some v → sk_oV N v) (h : ∀ v ∈ st, sk_oV N v) : ∀ v ∈ r.toList ++ st, sk_oV N v := by
  cases r with
  | none => exact h
  | some x => exact sk_cons (hr x rfl) h
theorem sk_pushm {ad : Nat → Nat} {r : Option Value} {st : List Value} : (r.toList ++ st).map (sk_v ad) = (r.map (sk_v ad)).toList ++ st.map (sk_v ad) := by cases r <;> rfl
theorem g_callV (F : sk_F M d kc ks Z) {idx ci b : Nat} {T : u_T} {N : Nat} {fs : List Value} (hd : decode M.2.1 pc = .ok (.invokevirtual idx, 3)) (hB : sk_cB M.1.cls idx M') (hI : Cond.instanceMethod M'.1 ∈ sk_ws ∧ Cond.selects M'.1.cls M'.1 M'.1 ∈ sk_ws) (hp : sk_nP M' As.length) (he : w[b]? = some (.inr (.inr (ci, fs)))) (hc : vwCl[ci]? = some (M'.1.cls, T, N))
    (hC : Ct M' d' kc' ks' w (.ref b :: As) Po') (hstk : stk = As.reverse ++ .ref b :: st) (hdd : d' + 1 ≤ d) (hk : k + kc' ≤ kc) (hn : n + ks' ≤ ks) (hcat : (st.map fun v => v.category).sum ≤ 8)
    (h : ∀ r w', Po' r w' → w.length ≤ w'.length → Z w' (pc + 3) lv (r.toList ++ st) (k + kc') (n + ks')) : Z w pc lv stk k n := by
  obtain ⟨p, l, e, R, s, m, args, below, meth, c, E, ad0, n0, Q, rfl, ⟨hx, hb, hml, hown, hts, hK, hO, hA, hn0, had, hnm⟩, hR⟩ := F
  intro ad H locs ls a1 a2 a3 a4 a5 a6 a7 a8 a9
  obtain ⟨o1, o2⟩ := sk_mapok (st := .ref b :: st) hstk a4
  have hg := sk_ge a2 he (sk_nd hc)
  have hat := sk_w_at (tc := eT E) (ad := ad) he hg
  have hrun := va_runV (e := e) (below := below) (meth := meth) (Ts := sk_ws) (As := As.map (sk_v ad)) (rest := st.map (sk_v ad)) (b := ad b) (g := F0 m pc ls (stk.map (sk_v ad))) (H := H) (locs := locs) (cells := k) (slots := n) ⟨hx, hb, hml, hown, hts⟩ (hC l E ad a2 (sk_cons (sk_hd o2) o1) (fun i hi => (a5 i (Nat.lt_of_lt_of_le hi hn0)).trans (had i hi)))
    ⟨sk_callB (kc := kc) (ks := ks) hB hp hts hR hdd, hts _ hI.1, hts _ hI.2⟩ ⟨sk_blind, va_recv hK a7 hc hat, sk_at hK hO hA a7 a8 a9⟩ rfl (List.length_map _) a6.1 (by rw [hstk, List.map_append, List.map_reverse]; rfl) (lv_room (by rw [sk_cats]; exact hcat)) hd ⟨Nat.le_trans hk hR.2.1, Nat.le_trans hn hR.2.2.1⟩
  refine sk_after hrun a9 (fun r w' ad' H1 locs1 c1 c2 c3 c4 c5 c6 c7 c8 => ?_)
  have e2 : st.map (sk_v ad) = st.map (sk_v ad') := List.map_congr_left (fun v hv => (sk_v_agree c5 (sk_tail o2 v hv)).symm)
  have e3 : sk_l ad lv = sk_l ad' lv := List.map_congr_left (fun v hv => by rw [sk_v_agree c5 (a3 v hv)])
  rw [e2, ← sk_pushm]
  exact h r w' c1 c2 ad' H1 locs1 ls (Nat.le_trans a1 c2) c3 (fun q hq => sk_oV_mono (a3 q hq) c2) (sk_push c4 (fun v hv => sk_oV_mono (sk_tail o2 v hv) c2)) (fun i hi => (c5 i (Nat.lt_of_lt_of_le hi a1)).trans (a5 i hi)) (by rw [← e3]; exact a6) c6 c7 c8
theorem g_callI (F : sk_F M d kc ks Z) {idx b : Nat} (hd : decode M.2.1 pc = .ok (.invokespecial idx, 3)) (hB : sk_cB M.1.cls idx M') (hI : Cond.instanceMethod M'.1 ∈ sk_ws ∧ M'.1.name = "<init>" ∧ M'.2.2.2 = none) (hp : sk_nP M' As.length)
    (hC : Ct M' d' kc' ks' w (.ref b :: As) Po') (hstk : stk = As.reverse ++ .ref b :: st) (hdd : d' + 1 ≤ d) (hk : k + kc' ≤ kc) (hn : n + ks' ≤ ks) (hcat : (st.map fun v => v.category).sum ≤ 8)
    (h : ∀ r w', Po' r w' → w.length ≤ w'.length → Z w' (pc + 3) lv (r.toList ++ st) (k + kc') (n + ks')) : Z w pc lv stk k n := by
  obtain ⟨p, l, e, R, s, m, args, below, meth, c, E, ad0, n0, Q, rfl, ⟨hx, hb, hml, hown, hts, hK, hO, hA, hn0, had, hnm⟩, hR⟩ := F
  intro ad H locs ls a1 a2 a3 a4 a5 a6 a7 a8 a9
  obtain ⟨o1, o2⟩ := sk_mapok (st := .ref b :: st) hstk a4
  have hcb := sk_callB (kc := kc) (ks := ks) (kc' := kc') (ks' := ks') hB hp hts hR hdd
  have hCt := hC l E ad a2 (sk_cons (sk_hd o2) o1) (fun i hi => (a5 i (Nat.lt_of_lt_of_le hi hn0)).trans (had i hi))
  rw [hI.2.2] at hcb hCt
  have hrun := va_runI (e := e) (below := below) (meth := meth) (Ts := sk_ws) (As := As.map (sk_v ad)) (rest := st.map (sk_v ad)) (b := ad b) (g := F0 m pc ls (stk.map (sk_v ad))) (H := H) (locs := locs) (cells := k) (slots := n) ⟨hx, hb, hml, hown, hts⟩ hCt
    ⟨hcb, hI.2.1, hts _ hI.1⟩ ⟨sk_blind, sk_at hK hO hA a7 a8 a9⟩ rfl (List.length_map _) a6.1 (by rw [hstk, List.map_append, List.map_reverse]; rfl) (lv_room (by rw [sk_cats]; exact hcat)) hd ⟨Nat.le_trans hk hR.2.1, Nat.le_trans hn hR.2.2.1⟩
  refine sk_after hrun a9 (fun r w' ad' H1 locs1 c1 c2 c3 c4 c5 c6 c7 c8 => ?_)
  have e2 : st.map (sk_v ad) = st.map (sk_v ad') := List.map_congr_left (fun v hv => (sk_v_agree c5 (sk_tail o2 v hv)).symm)
  have e3 : sk_l ad lv = sk_l ad' lv := List.map_congr_left (fun v hv => by rw [sk_v_agree c5 (a3 v hv)])
  rw [e2, ← sk_pushm]
  exact h r w' c1 c2 ad' H1 locs1 ls (Nat.le_trans a1 c2) c3 (fun q hq => sk_oV_mono (a3 q hq) c2) (sk_push c4 (fun v hv => sk_oV_mono (sk_tail o2 v hv) c2)) (fun i hi => (c5 i (Nat.lt_of_lt_of_le hi a1)).trans (a5 i hi)) (by rw [← e3]; exact a6) c6 c7 c8
theorem g_callS (F : sk_F M d kc ks Z) {idx : Nat} (hd : decode M.2.1 pc = .ok (.invokestatic idx, 3)) (hB : sk_cB M.1.cls idx M') (hI : Cond.static M'.1 ∈ sk_ws) (hp : sk_nP M' As.length)
    (hC : Ct M' d' kc' ks' w As Po') (hstk : stk = As.reverse ++ st) (hdd : d' + 1 ≤ d) (hk : k + kc' ≤ kc) (hn : n + ks' ≤ ks) (hcat : (st.map fun v => v.category).sum ≤ 8)
    (h : ∀ r w', Po' r w' → w.length ≤ w'.length → Z w' (pc + 3) lv (r.toList ++ st) (k + kc') (n + ks')) : Z w pc lv stk k n := by
  obtain ⟨p, l, e, R, s, m, args, below, meth, c, E, ad0, n0, Q, rfl, ⟨hx, hb, hml, hown, hts, hK, hO, hA, hn0, had, hnm⟩, hR⟩ := F
  intro ad H locs ls a1 a2 a3 a4 a5 a6 a7 a8 a9
  obtain ⟨o1, o2⟩ := sk_mapok hstk a4
  have hrun := va_runS (e := e) (below := below) (meth := meth) (Ts := sk_ws) (As := As.map (sk_v ad)) (rest := st.map (sk_v ad)) (g := F0 m pc ls (stk.map (sk_v ad))) (H := H) (locs := locs) (cells := k) (slots := n) ⟨hx, hb, hml, hown, hts⟩ (hC l E ad a2 o1 (fun i hi => (a5 i (Nat.lt_of_lt_of_le hi hn0)).trans (had i hi)))
    ⟨sk_callB (kc := kc) (ks := ks) hB hp hts hR hdd, hts _ hI⟩ ⟨sk_blind, sk_at hK hO hA a7 a8 a9⟩ rfl (List.length_map _) a6.1 (by rw [hstk, ← List.map_reverse, ← List.map_append]) (lv_room (by rw [sk_cats]; exact hcat)) hd ⟨Nat.le_trans hk hR.2.1, Nat.le_trans hn hR.2.2.1⟩
  refine sk_after hrun a9 (fun r w' ad' H1 locs1 c1 c2 c3 c4 c5 c6 c7 c8 => ?_)
  have e2 : st.map (sk_v ad) = st.map (sk_v ad') := List.map_congr_left (fun v hv => (sk_v_agree c5 (o2 v hv)).symm)
  have e3 : sk_l ad lv = sk_l ad' lv := List.map_congr_left (fun v hv => by rw [sk_v_agree c5 (a3 v hv)])
  rw [e2, ← sk_pushm]
  exact h r w' c1 c2 ad' H1 locs1 ls (Nat.le_trans a1 c2) c3 (fun q hq => sk_oV_mono (a3 q hq) c2) (sk_push c4 (fun v hv => sk_oV_mono (o2 v hv) c2)) (fun i hi => (c5 i (Nat.lt_of_lt_of_le hi a1)).trans (a5 i hi)) (by rw [← e3]; exact a6) c6 c7 c8
theorem g_objInit (F : sk_F M d kc ks Z) {idx b : Nat} (hd : decode M.2.1 pc = .ok (.invokespecial idx, 3)) (hw : Cond.methodLink M.1.cls idx Lib.objectInit ∈ sk_ws) (hw2 : Cond.instanceMethod Lib.objectInit ∈ sk_ws) (hw3 : Cond.code Lib.objectInit ⟨#[0xb1]⟩ 1 none ∈ sk_ws) (hdd : 1 ≤ d) (h : Z w (pc + 3) lv [] k n) : Z w pc lv [.ref b] k n := by
  obtain ⟨p, l, e, R, s, m, args, below, meth, c, E, ad0, n0, Q, rfl, ⟨hx, hb, hml, hown, hts, hK, hO, hA, hn0, had, hnm⟩, hR⟩ := F
  intro ad H locs ls a1 a2 a3 a4 a5 a6 a7 a8 a9
  refine W.objInit hx hb hown (hts _ hw) (hts _ hw2) (hts _ hw3) (g := F0 m pc ls [.ref (ad b)]) rfl (by rw [hml]; exact a6.1) rfl hd (Nat.le_trans hdd hR.1) (by show 2 * 0 + 0 + 12 ≤ R.locals; have := hR.2.2.2; omega) ?_
  exact h ad H locs ls a1 a2 a3 (sk_tail a4) a5 a6 a7 a8 a9
theorem g_mmin (F : sk_F M d kc ks Z) {idx : Nat} {x y : Int32} (hd : decode M.2.1 pc = .ok (.invokestatic idx, 3)) (hw : Cond.methodLink M.1.cls idx Lib.Math.min.name ∈ sk_ws) (hw2 : Cond.static Lib.Math.min.name ∈ sk_ws) (hw3 : Cond.initialized "java/lang/Math" ∈ sk_ws) (hw4 : Cond.code Lib.Math.min.name Lib.Math.min.code 2 (some .int) ∈ sk_ws) (hdd : 1 ≤ d) (hk : k ≤ kc) (hn : n ≤ ks) (hcat : (st.map fun v => v.category).sum ≤ 8) (h : Z w (pc + 3) lv (.int (c_min x y) :: st) k n) : Z w pc lv (.int y :: .int x :: st) k n := by
  obtain ⟨p, l, e, R, s, m, args, below, meth, c, E, ad0, n0, Q, rfl, ⟨hx, hb, hml, hown, hts, hK, hO, hA, hn0, had, hnm⟩, hR⟩ := F
  intro ad H locs ls a1 a2 a3 a4 a5 a6 a7 a8 a9
  exact va_mmin hx hb (hml.trans a6.1.symm) hown (hts _ hw) (hts _ hw2) (hts _ hw3) (hts _ hw4) (Nat.le_trans hdd hR.1) (by rw [sk_cats]; have := hR.2.2.2; omega) (Nat.le_trans hk hR.2.1) (Nat.le_trans hn hR.2.2.1) hd (h ad H locs ls a1 a2 a3 (sk_cons sk_oV_int (sk_tail (sk_tail a4))) a5 a6 a7 a8 a9)
def sk_cpy (L K : List Int32) (sp dp N : Nat) : List Int32 := K.take dp ++ (L.drop sp).take N ++ K.drop (dp + N)
theorem sk_cpy_len {L K : List Int32} {sp dp N : Nat} (h4 : sp + N ≤ L.length) (h5 : dp + N ≤ K.length) : (sk_cpy L K sp dp N).length = K.length := by
  unfold sk_cpy
  simp only [List.length_append, List.length_take, List.length_drop]
  omega
theorem sk_cpy_f {L K : List Int32} {sp dp N : Nat} (h4 : sp + N ≤ L.length) (h5 : dp + N ≤ K.length) : va_cpy (fun j => L.getD j 0) (fun j => K.getD j 0) sp dp N = fun j => (sk_cpy L K sp dp N).getD j 0 := by
  funext j
  unfold va_cpy sk_cpy
  simp only [List.getD_eq_getElem?_getD]
  by_cases h1 : j < dp
  · rw [if_neg (by omega), List.append_assoc, List.getElem?_append_left (by rw [List.length_take]; omega), List.getElem?_take_of_lt h1]
  · by_cases h2 : j < dp + N
    · rw [if_pos (by omega), List.append_assoc, List.getElem?_append_right (by rw [List.length_take]; omega), List.getElem?_append_left (by simp only [List.length_take, List.length_drop]; omega), List.length_take, Nat.min_eq_left (by omega), List.getElem?_take_of_lt (by omega), List.getElem?_drop]
    · rw [if_neg (by omega), List.getElem?_append_right (by simp only [List.length_append, List.length_take, List.length_drop]; omega), List.getElem?_drop]
      congr 2
      simp only [List.length_append, List.length_take, List.length_drop]
      omega
theorem sk_natw {ad : Nat → Nat} {R : Room} (hcat : (st.map fun v => v.category).sum ≤ 8) (hR : sk_r R d kc ks) (hdd : 1 ≤ d) : ((st.map (sk_v ad)).map fun v => v.category).sum + (nativeFrameWords "java/lang/System" "arraycopy" 5 + 11) ≤ R.locals := by
  rw [sk_cats]
  have h1 : nativeFrameWords "java/lang/System" "arraycopy" 5 ≤ 10 := by decide +kernel
  have := hR.2.2.2
  omega
theorem g_copy (F : sk_F M d kc ks Z) {idx i0 i1 t : Nat} {L K : List Int32} {sp dp N : Int32} {sp' dp' N' : Nat} (hd : decode M.2.1 pc = .ok (.invokestatic idx, 3)) (hw : Cond.methodLink M.1.cls idx arraycopyName ∈ sk_ws) (hw2 : Cond.native arraycopyName ∈ sk_ws) (hw3 : Cond.static arraycopyName ∈ sk_ws) (hw4 : Cond.initialized "java/lang/System" ∈ sk_ws)
    (he0 : w[i0]? = some (.inl (t, L))) (he1 : w[i1]? = some (.inl (t, K))) (ht : sk_tys[t]? = some .int) (h1 : ¬ sp < 0) (h2 : ¬ dp < 0) (h3 : ¬ N < 0) (es : sp.toNatClampNeg = sp') (ed : dp.toNatClampNeg = dp') (eN : N.toNatClampNeg = N') (h4 : sp' + N' ≤ L.length) (h5 : dp' + N' ≤ K.length) (hdd : 1 ≤ d) (hcat : (st.map fun v => v.category).sum ≤ 8)
    (h : Z (w.set i1 (.inl (t, sk_cpy L K sp' dp' N'))) (pc + 3) lv st k n) : Z w pc lv (.int N :: .int dp :: .ref i1 :: .int sp :: .ref i0 :: st) k n := by
  obtain ⟨p, l, e, R, s, m, args, below, meth, c, E, ad0, n0, Q, rfl, ⟨hx, hb, hml, hown, hts, hK, hO, hA, hn0, had, hnm⟩, hR⟩ := F
  intro ad H locs ls a1 a2 a3 a4 a5 a6 a7 a8 a9
  have hg0 := sk_ge a2 he0 sk_nd1
  have hg := sk_ge a2 he1 sk_nd1
  have hat0 := sk_w_at (tc := eT E) (ad := ad) he0 hg0
  have hat := sk_w_at (tc := eT E) (ad := ad) he1 hg
  subst es; subst ed; subst eN
  have hset : sk_w (eT E) ad (w.set i1 (.inl (t, sk_cpy L K sp.toNatClampNeg dp.toNatClampNeg N.toNatClampNeg))) = (sk_w (eT E) ad w).set (i1 - sk_k) (ad i1, .inl (eT E t, K.length, .inl (va_cpy (fun j => L.getD j 0) (fun j => K.getD j 0) sp.toNatClampNeg dp.toNatClampNeg N.toNatClampNeg))) := by
    rw [sk_w_set hg, sk_cpy_f h4 h5]
    show (sk_w (eT E) ad w).set (i1 - sk_k) (ad i1, .inl (eT E t, (sk_cpy L K sp.toNatClampNeg dp.toNatClampNeg N.toNatClampNeg).length, .inl (fun q => (sk_cpy L K sp.toNatClampNeg dp.toNatClampNeg N.toNatClampNeg).getD q 0))) = _
    rw [sk_cpy_len h4 h5]
  refine va_copyi hx hb (hml.trans a6.1.symm) hown (hts _ hw) (hts _ hw2) (hts _ hw3) (hts _ hw4) hK a7 a8 a9 (i0 - sk_k) (i1 - sk_k) t t hat0 hat (sk_ty ht) (sk_ty ht) rfl h1 h2 h3 h4 h5 (fun _ _ => rfl) (Nat.le_trans hdd hR.1) (sk_natw hcat hR hdd) hd (fun H1 locs1 b1 b2 b3 => ?_)
  rw [← hset] at b1 b2
  exact h ad H1 locs1 ls (by rw [List.length_set]; exact a1) (sk_oW_set a2 hg trivial) (by rw [List.length_set]; exact a3) (by rw [List.length_set]; exact sk_tail (sk_tail (sk_tail (sk_tail (sk_tail a4))))) a5 a6 b1 b2 b3
theorem g_widen (F : sk_F M d kc ks Z) {k' n' : Nat} (hk : k ≤ k') (hn : n ≤ n') (h : Z w pc lv st k' n') : Z w pc lv st k n := by
  obtain ⟨p, l, e, R, s, m, args, below, meth, c, E, ad0, n0, Q, rfl, ⟨hx, hb, hml, hown, hts, hK, hO, hA, hn0, had, hnm⟩, hR⟩ := F
  intro ad H locs ls a1 a2 a3 a4 a5 a6 a7 a8 a9
  exact W.widen hk hn (h ad H locs ls a1 a2 a3 a4 a5 a6 a7 a8 a9)
theorem g_iret (T : sk_T M d kc ks Po Z) {v : Int32} (hd : decode M.2.1 pc = .ok (.ireturn, 1)) (hret : M.2.2.2 = some .int) (hk : k ≤ kc) (hn : n ≤ ks) (hp : Po (some (.int v)) w) : Z w pc lv [.int v] k n := by
  obtain ⟨p, l, e, s, m, args, below, meth, c, E, ad0, n0, rfl, ⟨hx, hb, hml, hown, hts, hK, hO, hA, hn0, had, hnm⟩, hr, hlocks⟩ := T
  intro ad H locs ls a1 a2 a3 a4 a5 a6 a7 a8 a9
  exact W.widen hk hn (W.iret (v := v) hx hb (hr.trans hret) (fun t ht hW => ⟨⟨some (.int v), w, ad, rfl, hp, a1, a2, (fun _ e9 => by cases e9; exact sk_oV_int), a5, by rw [ht]; exact a7, a8⟩, a9.F ht⟩) a9.2.2 hd hlocks)
theorem g_zret (T : sk_T M d kc ks Po Z) {v : Int32} {ty : FieldType} (hd : decode M.2.1 pc = .ok (.ireturn, 1)) (hret : M.2.2.2 = some ty) (hnr : narrow ty (.int v) = .int v) (hk : k ≤ kc) (hn : n ≤ ks) (hp : Po (some (.int v)) w) : Z w pc lv [.int v] k n := by
  obtain ⟨p, l, e, s, m, args, below, meth, c, E, ad0, n0, rfl, ⟨hx, hb, hml, hown, hts, hK, hO, hA, hn0, had, hnm⟩, hr, hlocks⟩ := T
  intro ad H locs ls a1 a2 a3 a4 a5 a6 a7 a8 a9
  exact W.widen hk hn (W.zret (v := v) hx hb (hr.trans hret) hnr (fun t ht hW => ⟨⟨some (.int v), w, ad, rfl, hp, a1, a2, (fun _ e9 => by cases e9; exact sk_oV_int), a5, by rw [ht]; exact a7, a8⟩, a9.F ht⟩) a9.2.2 hd hlocks)
theorem g_lret (T : sk_T M d kc ks Po Z) {v : Int64} (hd : decode M.2.1 pc = .ok (.lreturn, 1)) (hret : M.2.2.2 = some .long) (hk : k ≤ kc) (hn : n ≤ ks) (hp : Po (some (.long v)) w) : Z w pc lv [.long v] k n := by
  obtain ⟨p, l, e, s, m, args, below, meth, c, E, ad0, n0, rfl, ⟨hx, hb, hml, hown, hts, hK, hO, hA, hn0, had, hnm⟩, hr, hlocks⟩ := T
  intro ad H locs ls a1 a2 a3 a4 a5 a6 a7 a8 a9
  exact W.widen hk hn (W.lret (v := v) hx hb (hr.trans hret) (fun t ht hW => ⟨⟨some (.long v), w, ad, rfl, hp, a1, a2, (fun _ e9 => by cases e9; exact sk_oV_long), a5, by rw [ht]; exact a7, a8⟩, a9.F ht⟩) a9.2.2 hd hlocks)
theorem g_aret (T : sk_T M d kc ks Po Z) {i : Nat} {rt : FieldType} (hd : decode M.2.1 pc = .ok (.areturn, 1)) (hret : M.2.2.2 = some rt) (hrt : (∃ q, rt = .object q) ∨ ∃ t, rt = .array t) (hk : k ≤ kc) (hn : n ≤ ks) (hp : Po (some (.ref i)) w) : Z w pc lv [.ref i] k n := by
  obtain ⟨p, l, e, s, m, args, below, meth, c, E, ad0, n0, rfl, ⟨hx, hb, hml, hown, hts, hK, hO, hA, hn0, had, hnm⟩, hr, hlocks⟩ := T
  intro ad H locs ls a1 a2 a3 a4 a5 a6 a7 a8 a9
  exact W.widen hk hn (W.aret (v := .ref (ad i)) hx hb (hr.trans hret) hrt (Or.inr ⟨_, rfl⟩) (fun t ht hW => ⟨⟨some (.ref i), w, ad, rfl, hp, a1, a2, (fun _ e9 => by cases e9; exact sk_hd a4), a5, by rw [ht]; exact a7, a8⟩, a9.F ht⟩) a9.2.2 hd hlocks)
theorem g_vret (T : sk_T M d kc ks Po Z) (hd : decode M.2.1 pc = .ok (.return_, 1)) (hret : M.2.2.2 = none) (hk : k ≤ kc) (hn : n ≤ ks) (hp : Po none w) : Z w pc lv [] k n := by
  obtain ⟨p, l, e, s, m, args, below, meth, c, E, ad0, n0, rfl, ⟨hx, hb, hml, hown, hts, hK, hO, hA, hn0, had, hnm⟩, hr, hlocks⟩ := T
  intro ad H locs ls a1 a2 a3 a4 a5 a6 a7 a8 a9
  exact W.widen hk hn (W.vret hx hb (hr.trans hret) (fun t ht hW => ⟨⟨none, w, ad, rfl, hp, a1, a2, (fun _ e9 => by cases e9), a5, by rw [ht]; exact a7, a8⟩, a9.F ht⟩) a9.2.2 hd hlocks)
end SKN
end
section

abbrev cM : Type := Nat → Nat → Int32
def c_row (c : cM) (i : Nat) (r : Nat → Int32) : cM := fun a => if a = i then r else c a
def c_up (c : cM) (i j : Nat) (v : Int32) : cM := c_row c i (fun b => if b = j then v else c i b)
def kd (i : Nat) : Nat := (ky.getD i (998, 0, [])).1
def ln (i : Nat) : Nat := (ky.getD i (998, 0, [])).2.1
def rf (i f : Nat) : Nat := ((ky.getD i (998, 0, [])).2.2).getD f 0
def c_N : Nat := ky.length
def c_nv (x : Int32) : Value := if x = 0 then .null else .ref x.toNatClampNeg
def c_fv (r : Nat → Int32) (i f t : Nat) : Value := if t = 0 then .int (r f) else if t = 1 then .ref (rf i f) else c_nv (r f)
def c_fs (r : Nat → Int32) (i ci : Nat) : List Value := (ft ci).mapIdx (fun f t => c_fv r i f t)
def c_el (r : Nat → Int32) (i : Nat) : sk_C :=
  if kd i < 50 then .inr (.inr (kd i, c_fs r i (kd i)))
  else if kd i = 100 then .inl (0, (List.range (ln i)).map r)
  else if kd i = 101 then .inl (1, (List.range (ln i)).map r)
  else if kd i = 102 then .inr (.inl (2, (List.range (ln i)).map (fun j => some (rf i j))))
  else sk_dum
theorem wd_ex : ∃ f : cM → sk_H, f = fun c => (List.range c_N).map (fun i => c_el (c i) i) := ⟨_, rfl⟩
noncomputable def wd : cM → sk_H := Classical.choose wd_ex
theorem wd_def (c : cM) : wd c = (List.range c_N).map (fun i => c_el (c i) i) := congrFun (Classical.choose_spec wd_ex) c
theorem c_row_self {c : cM} {i : Nat} {r : Nat → Int32} : c_row c i r i = r := if_pos rfl
theorem c_row_ne {c : cM} {i a : Nat} {r : Nat → Int32} (h : a ≠ i) : c_row c i r a = c a := if_neg h
theorem c_up_ne {c : cM} {i j a : Nat} {v : Int32} (h : a ≠ i) : c_up c i j v a = c a := if_neg h
theorem c_up_self {c : cM} {i j : Nat} {v : Int32} : c_up c i j v i j = v := by
  unfold c_up; rw [c_row_self, if_pos rfl]
theorem c_up_at {c : cM} {i j b : Nat} {v : Int32} (h : b ≠ j) : c_up c i j v i b = c i b := by
  unfold c_up; rw [c_row_self, if_neg h]
theorem kd_lt {i : Nat} (h : kd i ≠ 998) : i < c_N := by
  rcases Nat.lt_or_ge i c_N with g | g
  · exact g
  · exact absurd (by unfold kd; rw [List.getD_eq_getElem?_getD, List.getElem?_eq_none_iff.mpr g]; rfl) h
theorem wd_len {c : cM} : (wd c).length = c_N := by rw [wd_def, List.length_map, List.length_range]
theorem wd_at {c : cM} {i : Nat} (h : i < c_N) : (wd c)[i]? = some (c_el (c i) i) := by
  rw [wd_def, List.getElem?_map, List.getElem?_range h]
  rfl
theorem wd_set {c : cM} {i : Nat} {r : Nat → Int32} (h : i < c_N) : (wd c).set i (c_el r i) = wd (c_row c i r) := by
  apply List.ext_getElem?
  intro a
  by_cases ha : a = i
  · subst ha
    rw [List.getElem?_set_self (by rw [wd_len]; exact h), wd_at h, c_row_self]
  · rw [List.getElem?_set_ne (Ne.symm ha)]
    by_cases hl : a < c_N
    · rw [wd_at hl, wd_at hl, c_row_ne ha]
    · rw [List.getElem?_eq_none_iff.mpr (by rw [wd_len]; omega), List.getElem?_eq_none_iff.mpr (by rw [wd_len]; omega)]
theorem el_o {r : Nat → Int32} {i ci : Nat} (h : kd i = ci) (hc : ci < 50) : c_el r i = .inr (.inr (ci, c_fs r i ci)) := by
  subst h
  unfold c_el
  rw [if_pos hc]
theorem el_i {r : Nat → Int32} {i : Nat} (h : kd i = 100) : c_el r i = .inl (0, (List.range (ln i)).map r) := by
  unfold c_el
  rw [if_neg (by omega), if_pos h]
theorem el_z {r : Nat → Int32} {i : Nat} (h : kd i = 101) : c_el r i = .inl (1, (List.range (ln i)).map r) := by
  unfold c_el
  rw [if_neg (by omega), if_neg (by omega), if_pos h]
theorem el_q {r : Nat → Int32} {i : Nat} (h : kd i = 102) : c_el r i = .inr (.inl (2, (List.range (ln i)).map (fun j => some (rf i j)))) := by
  unfold c_el
  rw [if_neg (by omega), if_neg (by omega), if_neg (by omega), if_pos h]
theorem wd_o {c : cM} {i ci : Nat} (h : kd i = ci) (hc : ci < 50) : (wd c)[i]? = some (.inr (.inr (ci, c_fs (c i) i ci))) := by
  rw [wd_at (kd_lt (by omega)), el_o h hc]
theorem wd_i {c : cM} {i : Nat} (h : kd i = 100) : (wd c)[i]? = some (.inl (0, (List.range (ln i)).map (c i))) := by
  rw [wd_at (kd_lt (by omega)), el_i h]
theorem wd_z {c : cM} {i : Nat} (h : kd i = 101) : (wd c)[i]? = some (.inl (1, (List.range (ln i)).map (c i))) := by
  rw [wd_at (kd_lt (by omega)), el_z h]
theorem wd_q {c : cM} {i : Nat} (h : kd i = 102) : (wd c)[i]? = some (.inr (.inl (2, (List.range (ln i)).map (fun j => some (rf i j))))) := by
  rw [wd_at (kd_lt (by omega)), el_q h]
theorem c_fs_at {r : Nat → Int32} {i ci f t : Nat} (h : (ft ci)[f]? = some t) : (c_fs r i ci)[f]? = some (c_fv r i f t) := by
  unfold c_fs
  rw [List.getElem?_mapIdx, h]
  rfl
theorem c_mi_set {l : List Nat} {F G : Nat → Nat → Value} {f t : Nat} {x : Value} (h : l[f]? = some t) (hn : ∀ a q, a ≠ f → F a q = G a q) (hx : G f t = x) : (l.mapIdx F).set f x = l.mapIdx G := by
  apply List.ext_getElem?
  intro a
  by_cases ha : a = f
  · subst ha
    rw [List.getElem?_set_self (by rw [List.length_mapIdx]; exact (List.getElem?_eq_some_iff.mp h).1), List.getElem?_mapIdx, h, Option.map_some, hx]
  · rw [List.getElem?_set_ne (Ne.symm ha), List.getElem?_mapIdx, List.getElem?_mapIdx]
    cases l[a]? with
    | none => rfl
    | some q => rw [Option.map_some, Option.map_some, hn a q ha]
theorem c_fv_ne {r r' : Nat → Int32} {i a q : Nat} (h : r a = r' a) : c_fv r i a q = c_fv r' i a q := by
  unfold c_fv
  rw [h]
theorem c_fs_set {r : Nat → Int32} {i ci f t : Nat} {v : Int32} {x : Value} (h : (ft ci)[f]? = some t) (hx : c_fv (fun b => if b = f then v else r b) i f t = x) : (c_fs r i ci).set f x = c_fs (fun b => if b = f then v else r b) i ci :=
  c_mi_set h (fun _ _ ha => c_fv_ne (if_neg ha).symm) hx
theorem c_rg_at {r : Nat → Int32} {N j : Nat} (h : j < N) : ((List.range N).map r).getD j 0 = r j := by
  rw [List.getD_eq_getElem?_getD, List.getElem?_map, List.getElem?_range h]
  rfl
theorem c_rg_len {α : Type} {r : Nat → α} {N : Nat} : ((List.range N).map r).length = N := by rw [List.length_map, List.length_range]
theorem c_rg_set {r : Nat → Int32} {N j : Nat} {v : Int32} : ((List.range N).map r).set j v = (List.range N).map (fun b => if b = j then v else r b) := by
  apply List.ext_getElem?
  intro a
  by_cases hl : a < N
  · by_cases ha : a = j
    · subst ha
      rw [List.getElem?_set_self (by rw [c_rg_len]; exact hl), List.getElem?_map, List.getElem?_range hl, Option.map_some, if_pos rfl]
    · rw [List.getElem?_set_ne (Ne.symm ha), List.getElem?_map, List.getElem?_map, List.getElem?_range hl, Option.map_some, Option.map_some, if_neg ha]
  · rw [List.getElem?_eq_none_iff.mpr (by rw [List.length_set, c_rg_len]; omega), List.getElem?_eq_none_iff.mpr (by rw [c_rg_len]; omega)]
def sk_fI (own : String) (idx ci f : Nat) : Prop := sk_fl own idx ci f ∧ ci < 50 ∧ (ft ci)[f]? = some 0
def sk_fR (own : String) (idx ci f : Nat) : Prop := sk_fl own idx ci f ∧ ci < 50 ∧ (ft ci)[f]? = some 1
def sk_fN (own : String) (idx ci f : Nat) : Prop := sk_fl own idx ci f ∧ ci < 50 ∧ (ft ci)[f]? = some 2
def sk_pF (own : String) (idx ci f : Nat) (ty : FieldType) : Prop := ∃ (C : String) (T : u_T) (N : Nat), vwCl[ci]? = some (C, T, N) ∧ f < N ∧ Cond.fieldLink own idx (T f).1 (T f).2.1 (T f).2.2.1 ∈ sk_ws ∧ (T f).2.2.2 = false ∧ parseFieldDescriptor (T f).2.2.1 = some ty
def sk_pI (own : String) (idx ci f : Nat) : Prop := sk_cl ci ∧ sk_pF own idx ci f .int ∧ ci < 50 ∧ (ft ci)[f]? = some 0
def sk_pZ (own : String) (idx ci f : Nat) : Prop := sk_cl ci ∧ sk_pF own idx ci f .boolean ∧ ci < 50 ∧ (ft ci)[f]? = some 0
def sk_pN (own : String) (idx ci f : Nat) (C : String) : Prop := sk_cl ci ∧ sk_pF own idx ci f (.object C) ∧ ci < 50 ∧ (ft ci)[f]? = some 2
def sk_vc (ci : Nat) (C : String) : Prop := ci < 50 ∧ ∃ (T : u_T) (N : Nat), vwCl[ci]? = some (C, T, N)
def bz (v : Int32) : Prop := v = 0 ∨ v = 1
theorem sk_fp_of {M : sk_M} {idx ci f : Nat} {ty : FieldType} (h : sk_pF M.1.cls idx ci f ty) : sk_fp M idx ci f ty := by
  obtain ⟨C, T, N, h1, h2, h3, h4, h5⟩ := h
  exact ⟨C, T, N, h1, h2, h3, Or.inl h4, h5⟩
def PoV (K : cM → Prop) : Option Value → sk_H → Prop := fun r w' => r = none ∧ ∃ c', w' = wd c' ∧ K c'
def PoI (K : Int32 → cM → Prop) : Option Value → sk_H → Prop := fun r w' => ∃ v c', r = some (.int v) ∧ w' = wd c' ∧ K v c'
def PoL (K : Int64 → cM → Prop) : Option Value → sk_H → Prop := fun r w' => ∃ v c', r = some (.long v) ∧ w' = wd c' ∧ K v c'
def PoR (K : Nat → cM → Prop) : Option Value → sk_H → Prop := fun r w' => ∃ v c', r = some (.ref v) ∧ w' = wd c' ∧ K v c'
theorem poV {K : cM → Prop} {c : cM} (h : K c) : PoV K none (wd c) := ⟨rfl, c, rfl, h⟩
theorem poI {K : Int32 → cM → Prop} {v : Int32} {c : cM} (h : K v c) : PoI K (some (.int v)) (wd c) := ⟨v, c, rfl, rfl, h⟩
theorem poL {K : Int64 → cM → Prop} {v : Int64} {c : cM} (h : K v c) : PoL K (some (.long v)) (wd c) := ⟨v, c, rfl, rfl, h⟩
theorem poR {K : Nat → cM → Prop} {v : Nat} {c : cM} (h : K v c) : PoR K (some (.ref v)) (wd c) := ⟨v, c, rfl, rfl, h⟩
theorem PoV.el {K : cM → Prop} {P : Option Value → sk_H → Prop} {r : Option Value} {w : sk_H} (h : PoV K r w) (f : ∀ c1, K c1 → P none (wd c1)) : P r w := by
  obtain ⟨h1, c1, h2, h3⟩ := h
  rw [h1, h2]
  exact f c1 h3
theorem PoI.el {K : Int32 → cM → Prop} {P : Option Value → sk_H → Prop} {r : Option Value} {w : sk_H} (h : PoI K r w) (f : ∀ v c1, K v c1 → P (some (.int v)) (wd c1)) : P r w := by
  obtain ⟨v, c1, h1, h2, h3⟩ := h
  rw [h1, h2]
  exact f v c1 h3
theorem PoL.el {K : Int64 → cM → Prop} {P : Option Value → sk_H → Prop} {r : Option Value} {w : sk_H} (h : PoL K r w) (f : ∀ v c1, K v c1 → P (some (.long v)) (wd c1)) : P r w := by
  obtain ⟨v, c1, h1, h2, h3⟩ := h
  rw [h1, h2]
  exact f v c1 h3
theorem PoR.el {K : Nat → cM → Prop} {P : Option Value → sk_H → Prop} {r : Option Value} {w : sk_H} (h : PoR K r w) (f : ∀ v c1, K v c1 → P (some (.ref v)) (wd c1)) : P r w := by
  obtain ⟨v, c1, h1, h2, h3⟩ := h
  rw [h1, h2]
  exact f v c1 h3
section SKC
variable {M : sk_M} {d kc ks : Nat} {Po : Option Value → sk_H → Prop} {Z : sk_P} {c : cM} {w : sk_H} {pc : Nat} {lv lv' : List (Nat × Value)} {st : List Value} {k n : Nat}
theorem gc_getI (F : sk_F M d kc ks Z) {idx ci f i : Nat} (hd : decode M.2.1 pc = .ok (.getfield idx, 3)) (hf : sk_fI M.1.cls idx ci f) (ho : kd i = ci) (h : Z (wd c) (pc + 3) lv (.int (c i f) :: st) k n) : Z (wd c) pc lv (.ref i :: st) k n :=
  g_get F hd hf.1 (wd_o ho hf.2.1) (c_fs_at hf.2.2) h
theorem gc_getR (F : sk_F M d kc ks Z) {idx ci f i : Nat} (hd : decode M.2.1 pc = .ok (.getfield idx, 3)) (hf : sk_fR M.1.cls idx ci f) (ho : kd i = ci) (h : Z (wd c) (pc + 3) lv (.ref (rf i f) :: st) k n) : Z (wd c) pc lv (.ref i :: st) k n :=
  g_get F hd hf.1 (wd_o ho hf.2.1) (c_fs_at hf.2.2) h
theorem gc_getN (F : sk_F M d kc ks Z) {idx ci f i : Nat} (hd : decode M.2.1 pc = .ok (.getfield idx, 3)) (hf : sk_fN M.1.cls idx ci f) (ho : kd i = ci) (h : Z (wd c) (pc + 3) lv (c_nv (c i f) :: st) k n) : Z (wd c) pc lv (.ref i :: st) k n :=
  g_get F hd hf.1 (wd_o ho hf.2.1) (c_fs_at hf.2.2) h
theorem c_nv_ne {x : Int32} (h : ¬ x = 0) : c_nv x = .ref x.toNatClampNeg := if_neg h
theorem c_nv_0 : c_nv 0 = .null := if_pos rfl
theorem gc_nn {x : Int32} (h0 : ¬ x = 0) (h : Z w pc lv (.ref x.toNatClampNeg :: st) k n) : Z w pc lv (c_nv x :: st) k n := by rw [c_nv_ne h0]; exact h
theorem gc_put (F : sk_F M d kc ks Z) {idx ci f i t : Nat} {ty : FieldType} {x : Value} {v : Int32} (hd : decode M.2.1 pc = .ok (.putfield idx, 3)) (hcl : sk_cl ci) (hp : sk_pF M.1.cls idx ci f ty) (hc5 : ci < 50) (hft : (ft ci)[f]? = some t) (ho : kd i = ci) (hx : ∀ r : Nat → Int32, r f = v → c_fv r i f t = x) (hn : ∀ ad, narrow ty (sk_v ad x) = sk_v ad x) (hfit : ∀ ad, fits ty (sk_v ad x) = true) (h : Z (wd (c_up c i f v)) (pc + 3) lv st k n) : Z (wd c) pc lv (x :: .ref i :: st) k n := by
  refine g_put F hd hcl (sk_fp_of hp) (wd_o ho hc5) ?_ hn hfit ?_
  · unfold c_fs
    rw [List.length_mapIdx]
    exact (List.getElem?_eq_some_iff.mp hft).1
  · rw [c_fs_set (v := v) hft (hx _ (if_pos rfl)), ← el_o ho hc5, wd_set (kd_lt (by omega))]
    exact h
theorem gc_putI (F : sk_F M d kc ks Z) {idx ci f i : Nat} {v : Int32} (hd : decode M.2.1 pc = .ok (.putfield idx, 3)) (hp : sk_pI M.1.cls idx ci f) (ho : kd i = ci) (h : Z (wd (c_up c i f v)) (pc + 3) lv st k n) : Z (wd c) pc lv (.int v :: .ref i :: st) k n :=
  gc_put F hd hp.1 hp.2.1 hp.2.2.1 hp.2.2.2 ho (fun r hr => by show Value.int (r f) = _; rw [hr]) (fun _ => rfl) (fun _ => rfl) h
theorem bz_n {v : Int32} (h : bz v) : narrow .boolean (.int v) = .int v := by
  rcases h with h | h <;> subst h <;> decide
theorem bz_v {v : Int32} (h : bz v) : vp_nar .boolean v = v := by
  rcases h with h | h <;> subst h <;> decide
theorem bz_f {v : Int32} (h : bz v) : fits .boolean (.int v) = true := by
  rcases h with h | h <;> subst h <;> decide
theorem gc_putZ (F : sk_F M d kc ks Z) {idx ci f i : Nat} {v : Int32} (hd : decode M.2.1 pc = .ok (.putfield idx, 3)) (hp : sk_pZ M.1.cls idx ci f) (ho : kd i = ci) (hv : bz v) (h : Z (wd (c_up c i f v)) (pc + 3) lv st k n) : Z (wd c) pc lv (.int v :: .ref i :: st) k n :=
  gc_put F hd hp.1 hp.2.1 hp.2.2.1 hp.2.2.2 ho (fun r hr => by show Value.int (r f) = _; rw [hr]) (fun _ => bz_n hv) (fun _ => bz_f hv) h
theorem gc_putNull (F : sk_F M d kc ks Z) {idx ci f i : Nat} {C : String} (hd : decode M.2.1 pc = .ok (.putfield idx, 3)) (hp : sk_pN M.1.cls idx ci f C) (ho : kd i = ci) (h : Z (wd (c_up c i f 0)) (pc + 3) lv st k n) : Z (wd c) pc lv (.null :: .ref i :: st) k n :=
  gc_put F hd hp.1 hp.2.1 hp.2.2.1 hp.2.2.2 ho (fun r hr => by show c_nv (r f) = _; rw [hr]; exact c_nv_0) (fun _ => rfl) (fun _ => rfl) h
theorem gc_putRef (F : sk_F M d kc ks Z) {idx ci f i t : Nat} {C : String} (hd : decode M.2.1 pc = .ok (.putfield idx, 3)) (hp : sk_pN M.1.cls idx ci f C) (ho : kd i = ci) (ht : 0 < t ∧ t < 1000) (h : Z (wd (c_up c i f (nI t))) (pc + 3) lv st k n) : Z (wd c) pc lv (.ref t :: .ref i :: st) k n :=
  gc_put F hd hp.1 hp.2.1 hp.2.2.1 hp.2.2.2 ho (fun r hr => by
    show c_nv (r f) = _
    rw [hr, c_nv_ne (fun e => by have h1 := congrArg Int32.toNatClampNeg e; rw [nI_clamp (by omega)] at h1; have h2 : (0 : Int32).toNatClampNeg = 0 := by decide
                                 omega), nI_clamp (by omega)]) (fun _ => rfl) (fun _ => rfl) h
theorem gc_iald (F : sk_F M d kc ks Z) {i : Nat} {x : Int32} (hd : decode M.2.1 pc = .ok (.iaload, 1)) (ho : kd i = 100) (hin : vp_in x (ln i)) (h : Z (wd c) (pc + 1) lv (.int (c i x.toNatClampNeg) :: st) k n) : Z (wd c) pc lv (.int x :: .ref i :: st) k n :=
  g_iald F hd (wd_i ho) rfl (by rw [c_rg_len]; exact hin) rfl (by rw [c_rg_at (sk_in hin)]; exact h)
theorem gc_zald (F : sk_F M d kc ks Z) {i : Nat} {x : Int32} (hd : decode M.2.1 pc = .ok (.baload, 1)) (ho : kd i = 101) (hin : vp_in x (ln i)) (h : Z (wd c) (pc + 1) lv (.int (c i x.toNatClampNeg) :: st) k n) : Z (wd c) pc lv (.int x :: .ref i :: st) k n :=
  g_zald F hd (wd_z ho) rfl (by rw [c_rg_len]; exact hin) rfl (by rw [c_rg_at (sk_in hin)]; exact h)
theorem gc_iast (F : sk_F M d kc ks Z) {i : Nat} {x v : Int32} (hd : decode M.2.1 pc = .ok (.iastore, 1)) (ho : kd i = 100) (hin : vp_in x (ln i)) (h : Z (wd (c_up c i x.toNatClampNeg v)) (pc + 1) lv st k n) : Z (wd c) pc lv (.int v :: .int x :: .ref i :: st) k n := by
  refine g_iast F hd (wd_i ho) rfl (by rw [c_rg_len]; exact hin) rfl ?_
  rw [c_rg_set, ← el_i ho, wd_set (kd_lt (by omega))]
  exact h
theorem gc_zast (F : sk_F M d kc ks Z) {i : Nat} {x v : Int32} (hd : decode M.2.1 pc = .ok (.bastore, 1)) (ho : kd i = 101) (hin : vp_in x (ln i)) (hv : bz v) (h : Z (wd (c_up c i x.toNatClampNeg v)) (pc + 1) lv st k n) : Z (wd c) pc lv (.int v :: .int x :: .ref i :: st) k n := by
  refine g_zast F hd (wd_z ho) rfl (by rw [c_rg_len]; exact hin) rfl (bz_v hv) ?_
  rw [c_rg_set, ← el_z ho, wd_set (kd_lt (by omega))]
  exact h
theorem gc_aald (F : sk_F M d kc ks Z) {i : Nat} {x : Int32} (hd : decode M.2.1 pc = .ok (.aaload, 1)) (ho : kd i = 102) (hin : vp_in x (ln i)) (h : Z (wd c) (pc + 1) lv (.ref (rf i x.toNatClampNeg) :: st) k n) : Z (wd c) pc lv (.int x :: .ref i :: st) k n :=
  g_aald F hd (wd_q ho) rfl (by rw [c_rg_len]; exact hin) rfl (by rw [List.getElem?_map, List.getElem?_range (sk_in hin)]; rfl) h
theorem gc_alen0 (F : sk_F M d kc ks Z) {i : Nat} (hd : decode M.2.1 pc = .ok (.arraylength, 1)) (ho : kd i = 100) (h : Z (wd c) (pc + 1) lv (.int (nI (ln i)) :: st) k n) : Z (wd c) pc lv (.ref i :: st) k n :=
  g_alen1 F hd (wd_i ho) (ty := .int) rfl (by rw [c_rg_len]; exact h)
theorem gc_alen1 (F : sk_F M d kc ks Z) {i : Nat} (hd : decode M.2.1 pc = .ok (.arraylength, 1)) (ho : kd i = 101) (h : Z (wd c) (pc + 1) lv (.int (nI (ln i)) :: st) k n) : Z (wd c) pc lv (.ref i :: st) k n :=
  g_alen1 F hd (wd_z ho) (ty := .boolean) rfl (by rw [c_rg_len]; exact h)
theorem gc_alen2 (F : sk_F M d kc ks Z) {i : Nat} (hd : decode M.2.1 pc = .ok (.arraylength, 1)) (ho : kd i = 102) (h : Z (wd c) (pc + 1) lv (.int (nI (ln i)) :: st) k n) : Z (wd c) pc lv (.ref i :: st) k n :=
  g_alen2 F hd (wd_q ho) (ty := .object "PackShelf$Thing") rfl (by rw [c_rg_len]; exact h)
def c_cp (f g : Nat → Int32) (sp dp N : Nat) : Nat → Int32 := fun j => if dp ≤ j ∧ j < dp + N then f (sp + (j - dp)) else g j
theorem c_rg_cpy {f g : Nat → Int32} {A B sp dp N : Nat} (h4 : sp + N ≤ A) (h5 : dp + N ≤ B) : sk_cpy ((List.range A).map f) ((List.range B).map g) sp dp N = (List.range B).map (c_cp f g sp dp N) := by
  apply List.ext_getElem?
  intro j
  unfold sk_cpy c_cp
  by_cases hj : j < B
  · rw [List.getElem?_map, List.getElem?_range hj, Option.map_some]
    by_cases h1 : j < dp
    · rw [if_neg (by omega), List.append_assoc, List.getElem?_append_left (by rw [List.length_take, c_rg_len]; omega), List.getElem?_take_of_lt h1, List.getElem?_map, List.getElem?_range hj]
      rfl
    · by_cases h2 : j < dp + N
      · rw [if_pos ⟨by omega, h2⟩, List.append_assoc, List.getElem?_append_right (by rw [List.length_take, c_rg_len]; omega), List.getElem?_append_left (by simp only [List.length_take, List.length_drop, c_rg_len]; omega), List.length_take, c_rg_len, Nat.min_eq_left (by omega), List.getElem?_take_of_lt (by omega), List.getElem?_drop, List.getElem?_map, List.getElem?_range (by omega)]
        rfl
      · rw [if_neg (by omega), List.getElem?_append_right (by simp only [List.length_append, List.length_take, List.length_drop, c_rg_len]; omega), List.getElem?_drop, List.getElem?_map, List.getElem?_range (by simp only [List.length_append, List.length_take, List.length_drop, c_rg_len]; omega), Option.map_some]
        congr 2
        simp only [List.length_append, List.length_take, List.length_drop, c_rg_len]
        omega
  · rw [List.getElem?_eq_none_iff.mpr (by simp only [List.length_append, List.length_take, List.length_drop, c_rg_len]; omega), List.getElem?_eq_none_iff.mpr (by rw [c_rg_len]; omega)]
theorem gc_copy (F : sk_F M d kc ks Z) {idx i0 i1 : Nat} {sp dp N : Int32} (hd : decode M.2.1 pc = .ok (.invokestatic idx, 3)) (hw : Cond.methodLink M.1.cls idx arraycopyName ∈ sk_ws) (hw2 : Cond.native arraycopyName ∈ sk_ws) (hw3 : Cond.static arraycopyName ∈ sk_ws) (hw4 : Cond.initialized "java/lang/System" ∈ sk_ws)
    (ho0 : kd i0 = 100) (ho1 : kd i1 = 100) (h1 : ¬ sp < 0) (h2 : ¬ dp < 0) (h3 : ¬ N < 0) (h4 : sp.toNatClampNeg + N.toNatClampNeg ≤ ln i0) (h5 : dp.toNatClampNeg + N.toNatClampNeg ≤ ln i1) (hdd : 1 ≤ d) (hcat : (st.map fun v => v.category).sum ≤ 8)
    (h : Z (wd (c_row c i1 (c_cp (c i0) (c i1) sp.toNatClampNeg dp.toNatClampNeg N.toNatClampNeg))) (pc + 3) lv st k n) : Z (wd c) pc lv (.int N :: .int dp :: .ref i1 :: .int sp :: .ref i0 :: st) k n := by
  refine g_copy F hd hw hw2 hw3 hw4 (wd_i ho0) (wd_i ho1) rfl h1 h2 h3 rfl rfl rfl (by rw [c_rg_len]; exact h4) (by rw [c_rg_len]; exact h5) hdd hcat ?_
  rw [c_rg_cpy h4 h5, ← el_i ho1, wd_set (kd_lt (by omega))]
  exact h
theorem g_lv (F : sk_F M d kc ks Z) (js : List Nat) (hl : lv_pick lv js = lv') (h : Z w pc lv' st k n) : Z w pc lv st k n := by
  obtain ⟨p, l, e, R, s, m, args, below, meth, c', E, ad0, n0, Q, rfl, ⟨hx, hb, hml, hown, hts, hK, hO, hA, hn0, had, hnm⟩, hR⟩ := F
  intro ad H locs ls a1 a2 a3 a4 a5 a6 a7 a8 a9
  subst hl
  have hsub : ∀ q ∈ lv_pick lv js, q ∈ lv := by
    intro q hq
    obtain ⟨j, -, hj⟩ := List.mem_filterMap.mp hq
    exact List.mem_of_getElem? hj
  refine h ad H locs ls a1 a2 (fun q hq => a3 q (hsub q hq)) a4 a5 ⟨a6.1, a6.2.1, fun q hq => ?_⟩ a7 a8 a9
  obtain ⟨q', hq', rfl⟩ := List.mem_map.mp hq
  exact a6.2.2 _ (List.mem_map.mpr ⟨q', hsub q' hq', rfl⟩)
theorem gc_ifnullQ (F : sk_F M d kc ks Z) {x : Int32} {off : Int} {tgt : Nat} (hd : decode M.2.1 pc = .ok (.ifnull off, 3)) (ht : (pc : Int) + off = (tgt : Int)) (kt : x = 0 → Z w tgt lv st k n) (kf : ¬ x = 0 → Z w (pc + 3) lv st k n) : Z w pc lv (c_nv x :: st) k n := by
  by_cases h0 : x = 0
  · rw [h0, c_nv_0]; exact g_ifnullN F hd ht (kt h0)
  · rw [c_nv_ne h0]; exact g_ifnull F hd (kf h0)
theorem gc_ifnonnullQ (F : sk_F M d kc ks Z) {x : Int32} {off : Int} {tgt : Nat} (hd : decode M.2.1 pc = .ok (.ifnonnull off, 3)) (ht : (pc : Int) + off = (tgt : Int)) (kt : ¬ x = 0 → Z w tgt lv st k n) (kf : x = 0 → Z w (pc + 3) lv st k n) : Z w pc lv (c_nv x :: st) k n := by
  by_cases h0 : x = 0
  · rw [h0, c_nv_0]; exact g_ifnonnullN F hd (kf h0)
  · rw [c_nv_ne h0]; exact g_ifnonnull F hd ht (kt h0)
section SKD
variable {M' : sk_M} {d' : Nat} {As stk : List Value}
theorem gc_callSV (F : sk_F M d kc ks Z) {K : cM → Prop} {idx : Nat} (hd : decode M.2.1 pc = .ok (.invokestatic idx, 3)) (hB : sk_cB M.1.cls idx M') (hI : Cond.static M'.1 ∈ sk_ws) (hp : sk_nP M' As.length) (hC : Ct M' d' 0 0 (wd c) As (PoV K)) (hstk : stk = As.reverse ++ st) (hdd : d' + 1 ≤ d) (hk : k ≤ kc) (hn : n ≤ ks) (hcat : (st.map fun v => v.category).sum ≤ 8) (h : ∀ c1, K c1 → Z (wd c1) (pc + 3) lv st k n) : Z (wd c) pc lv stk k n :=
  g_callS F hd hB hI hp hC hstk hdd hk hn hcat (fun r w' hp9 _ => PoV.el (P := fun r w' => Z w' (pc + 3) lv (r.toList ++ st) (k + 0) (n + 0)) hp9 (fun c1 h1 => h c1 h1))
theorem gc_callVV (F : sk_F M d kc ks Z) {K : cM → Prop} {idx ci b : Nat} (hd : decode M.2.1 pc = .ok (.invokevirtual idx, 3)) (hB : sk_cB M.1.cls idx M') (hI : Cond.instanceMethod M'.1 ∈ sk_ws ∧ Cond.selects M'.1.cls M'.1 M'.1 ∈ sk_ws) (hp : sk_nP M' As.length) (ho : kd b = ci) (hv : sk_vc ci M'.1.cls) (hC : Ct M' d' 0 0 (wd c) (.ref b :: As) (PoV K)) (hstk : stk = As.reverse ++ .ref b :: st) (hdd : d' + 1 ≤ d) (hk : k ≤ kc) (hn : n ≤ ks) (hcat : (st.map fun v => v.category).sum ≤ 8) (h : ∀ c1, K c1 → Z (wd c1) (pc + 3) lv st k n) : Z (wd c) pc lv stk k n :=
  by
  obtain ⟨h5, T, N, hc⟩ := hv
  exact g_callV F hd hB hI hp (wd_o ho h5) hc hC hstk hdd hk hn hcat (fun r w' hp9 _ => PoV.el (P := fun r w' => Z w' (pc + 3) lv (r.toList ++ st) (k + 0) (n + 0)) hp9 (fun c1 h1 => h c1 h1))
theorem gc_callSI (F : sk_F M d kc ks Z) {K : Int32 → cM → Prop} {idx : Nat} (hd : decode M.2.1 pc = .ok (.invokestatic idx, 3)) (hB : sk_cB M.1.cls idx M') (hI : Cond.static M'.1 ∈ sk_ws) (hp : sk_nP M' As.length) (hC : Ct M' d' 0 0 (wd c) As (PoI K)) (hstk : stk = As.reverse ++ st) (hdd : d' + 1 ≤ d) (hk : k ≤ kc) (hn : n ≤ ks) (hcat : (st.map fun v => v.category).sum ≤ 8) (h : ∀ v c1, K v c1 → Z (wd c1) (pc + 3) lv (.int v :: st) k n) : Z (wd c) pc lv stk k n :=
  g_callS F hd hB hI hp hC hstk hdd hk hn hcat (fun r w' hp9 _ => PoI.el (P := fun r w' => Z w' (pc + 3) lv (r.toList ++ st) (k + 0) (n + 0)) hp9 (fun v c1 h1 => h v c1 h1))
theorem gc_callVI (F : sk_F M d kc ks Z) {K : Int32 → cM → Prop} {idx ci b : Nat} (hd : decode M.2.1 pc = .ok (.invokevirtual idx, 3)) (hB : sk_cB M.1.cls idx M') (hI : Cond.instanceMethod M'.1 ∈ sk_ws ∧ Cond.selects M'.1.cls M'.1 M'.1 ∈ sk_ws) (hp : sk_nP M' As.length) (ho : kd b = ci) (hv : sk_vc ci M'.1.cls) (hC : Ct M' d' 0 0 (wd c) (.ref b :: As) (PoI K)) (hstk : stk = As.reverse ++ .ref b :: st) (hdd : d' + 1 ≤ d) (hk : k ≤ kc) (hn : n ≤ ks) (hcat : (st.map fun v => v.category).sum ≤ 8) (h : ∀ v c1, K v c1 → Z (wd c1) (pc + 3) lv (.int v :: st) k n) : Z (wd c) pc lv stk k n :=
  by
  obtain ⟨h5, T, N, hc⟩ := hv
  exact g_callV F hd hB hI hp (wd_o ho h5) hc hC hstk hdd hk hn hcat (fun r w' hp9 _ => PoI.el (P := fun r w' => Z w' (pc + 3) lv (r.toList ++ st) (k + 0) (n + 0)) hp9 (fun v c1 h1 => h v c1 h1))
theorem gc_callSL (F : sk_F M d kc ks Z) {K : Int64 → cM → Prop} {idx : Nat} (hd : decode M.2.1 pc = .ok (.invokestatic idx, 3)) (hB : sk_cB M.1.cls idx M') (hI : Cond.static M'.1 ∈ sk_ws) (hp : sk_nP M' As.length) (hC : Ct M' d' 0 0 (wd c) As (PoL K)) (hstk : stk = As.reverse ++ st) (hdd : d' + 1 ≤ d) (hk : k ≤ kc) (hn : n ≤ ks) (hcat : (st.map fun v => v.category).sum ≤ 8) (h : ∀ v c1, K v c1 → Z (wd c1) (pc + 3) lv (.long v :: st) k n) : Z (wd c) pc lv stk k n :=
  g_callS F hd hB hI hp hC hstk hdd hk hn hcat (fun r w' hp9 _ => PoL.el (P := fun r w' => Z w' (pc + 3) lv (r.toList ++ st) (k + 0) (n + 0)) hp9 (fun v c1 h1 => h v c1 h1))
theorem gc_callVL (F : sk_F M d kc ks Z) {K : Int64 → cM → Prop} {idx ci b : Nat} (hd : decode M.2.1 pc = .ok (.invokevirtual idx, 3)) (hB : sk_cB M.1.cls idx M') (hI : Cond.instanceMethod M'.1 ∈ sk_ws ∧ Cond.selects M'.1.cls M'.1 M'.1 ∈ sk_ws) (hp : sk_nP M' As.length) (ho : kd b = ci) (hv : sk_vc ci M'.1.cls) (hC : Ct M' d' 0 0 (wd c) (.ref b :: As) (PoL K)) (hstk : stk = As.reverse ++ .ref b :: st) (hdd : d' + 1 ≤ d) (hk : k ≤ kc) (hn : n ≤ ks) (hcat : (st.map fun v => v.category).sum ≤ 8) (h : ∀ v c1, K v c1 → Z (wd c1) (pc + 3) lv (.long v :: st) k n) : Z (wd c) pc lv stk k n :=
  by
  obtain ⟨h5, T, N, hc⟩ := hv
  exact g_callV F hd hB hI hp (wd_o ho h5) hc hC hstk hdd hk hn hcat (fun r w' hp9 _ => PoL.el (P := fun r w' => Z w' (pc + 3) lv (r.toList ++ st) (k + 0) (n + 0)) hp9 (fun v c1 h1 => h v c1 h1))
theorem gc_callSR (F : sk_F M d kc ks Z) {K : Nat → cM → Prop} {idx : Nat} (hd : decode M.2.1 pc = .ok (.invokestatic idx, 3)) (hB : sk_cB M.1.cls idx M') (hI : Cond.static M'.1 ∈ sk_ws) (hp : sk_nP M' As.length) (hC : Ct M' d' 0 0 (wd c) As (PoR K)) (hstk : stk = As.reverse ++ st) (hdd : d' + 1 ≤ d) (hk : k ≤ kc) (hn : n ≤ ks) (hcat : (st.map fun v => v.category).sum ≤ 8) (h : ∀ v c1, K v c1 → Z (wd c1) (pc + 3) lv (.ref v :: st) k n) : Z (wd c) pc lv stk k n :=
  g_callS F hd hB hI hp hC hstk hdd hk hn hcat (fun r w' hp9 _ => PoR.el (P := fun r w' => Z w' (pc + 3) lv (r.toList ++ st) (k + 0) (n + 0)) hp9 (fun v c1 h1 => h v c1 h1))
theorem gc_callVR (F : sk_F M d kc ks Z) {K : Nat → cM → Prop} {idx ci b : Nat} (hd : decode M.2.1 pc = .ok (.invokevirtual idx, 3)) (hB : sk_cB M.1.cls idx M') (hI : Cond.instanceMethod M'.1 ∈ sk_ws ∧ Cond.selects M'.1.cls M'.1 M'.1 ∈ sk_ws) (hp : sk_nP M' As.length) (ho : kd b = ci) (hv : sk_vc ci M'.1.cls) (hC : Ct M' d' 0 0 (wd c) (.ref b :: As) (PoR K)) (hstk : stk = As.reverse ++ .ref b :: st) (hdd : d' + 1 ≤ d) (hk : k ≤ kc) (hn : n ≤ ks) (hcat : (st.map fun v => v.category).sum ≤ 8) (h : ∀ v c1, K v c1 → Z (wd c1) (pc + 3) lv (.ref v :: st) k n) : Z (wd c) pc lv stk k n :=
  by
  obtain ⟨h5, T, N, hc⟩ := hv
  exact g_callV F hd hB hI hp (wd_o ho h5) hc hC hstk hdd hk hn hcat (fun r w' hp9 _ => PoR.el (P := fun r w' => Z w' (pc + 3) lv (r.toList ++ st) (k + 0) (n + 0)) hp9 (fun v c1 h1 => h v c1 h1))
end SKD
end SKC

theorem adO {E : sk_E} {ad ad0 : Nat → Nat} {n0 i : Nat} (a5 : ∀ i, i < n0 → ad i = ad0 i) (hn0 : sk_k ≤ n0) (had : ∀ i, i < sk_k → ad0 i = eO E i) (h : i < sk_k) : ad i = eO E i := (a5 i (Nat.lt_of_lt_of_le h hn0)).trans (had i h)
theorem k202 {i : Nat} (h : kd i = 202) : i = 1 ∨ i = 2 := by
  have h1 : ∀ i, i < c_N → kd i = 202 → i = 1 ∨ i = 2 := by decide +kernel
  exact h1 i (kd_lt (by omega)) h
theorem k200 {i : Nat} (h : kd i = 200) : 3 ≤ i ∧ i < 3 + oN ∧ rf i 0 = i + oN := by
  have h1 : ∀ i, i < c_N → kd i = 200 → 3 ≤ i ∧ i < 3 + oN ∧ rf i 0 = i + oN := by decide +kernel
  exact h1 i (kd_lt (by omega)) h
theorem k201 {i : Nat} (h : kd i = 201) : 3 + oN ≤ i ∧ i < 3 + oN + oN ∧ ln i = (oB.map List.length).getD (i - (3 + oN)) 0 := by
  have h1 : ∀ i, i < c_N → kd i = 201 → 3 + oN ≤ i ∧ i < 3 + oN + oN ∧ ln i = (oB.map List.length).getD (i - (3 + oN)) 0 := by decide +kernel
  exact h1 i (kd_lt (by omega)) h
theorem k_ln : ln 1 = 5 ∧ ln 2 = 4 := by decide +kernel
theorem k_sk : sk_k = 3 + oN + oN := by decide +kernel
section SKT
variable {p : Program} {l : Launch} {e : Env} {R : Room} {s : State} {m : MethodId} {args : Array Value} {below : List Frame} {meth : Method} {c : Code} {H : Heap} {locs : List Loc} {cells slots : Nat} {Q : State → Prop} {pc : Nat} {ls : Array Slot} {rest : List Value} {D : va_G} {cl : List vw_C} {A : Nat → Prop} {a : Nat} {tys : List (ClassId × FieldType)} {ws : va_W} {cc : ByteArray}
theorem sk_nn {z : Int32} (hz : ¬ z < 0) : z.toInt = (z.toNatClampNeg : Int) := by
  have h1 : (0 : Int) ≤ z.toInt := by
    have h2 := Int32.le_iff_toInt_le.mp (Int32.not_lt.mp hz)
    simpa using h2
  exact (Int.toNat_of_nonneg h1).symm
theorem sk_copyT (hexec : p.tables.exec = Jvm.exec) (hb : c.code = cc) (hml : c.maxLocals = ls.size) {own : String} {index : Nat} (hown : s.vm.findClass own = some m.cls) (hlink : (Cond.methodLink own index arraycopyName).before args s = true) (hnat : (Cond.native arraycopyName).before args s = true) (hstat : (Cond.static arraycopyName).before args s = true) (hini : (Cond.initialized "java/lang/System").before args s = true)
    (hK : va_K D cl tys s) (hP : va_P D cl ws H) (hD : va_D A ws) (hS : va_S A s.heap H locs) {b0 n0 : Nat} {f : Nat → Int32} (hX : va_T .int b0 n0 (fun j => .int (f j)) A s s.heap) (q1 t1 : Nat) {c1 : ClassId} {n1 : Nat} {g : Nat → Int32} (ha1 : ws[q1]? = some (a, .inl (c1, n1, .inl g))) (ht1 : tys[t1]? = some (c1, .int))
    {sp dp n : Int32} (h1 : ¬ sp < 0) (h2 : ¬ dp < 0) (h3 : ¬ n < 0) (h4 : sp.toNatClampNeg + n.toNatClampNeg ≤ n0) (h5 : dp.toNatClampNeg + n.toNatClampNeg ≤ n1)
    (hframes : 1 ≤ R.frames) (hlocals : (rest.map fun v => v.category).sum + (nativeFrameWords "java/lang/System" "arraycopy" 5 + 11) ≤ R.locals) (hdg : decode cc pc = .ok (.invokestatic index, 3))
    (kk : ∀ (H1 : Heap) (locs1 : List Loc), va_P D cl (ws.set q1 (a, .inl (c1, n1, .inl (va_cpy f g sp.toNatClampNeg dp.toNatClampNeg n.toNatClampNeg)))) H1 → va_D A (ws.set q1 (a, .inl (c1, n1, .inl (va_cpy f g sp.toNatClampNeg dp.toNatClampNeg n.toNatClampNeg)))) → va_S A s.heap H1 locs1 → W p l e R s m args below meth c H1 locs1 cells slots Q (F0 m (pc + 3) ls rest)) : W p l e R s m args below meth c H locs cells slots Q (F0 m pc ls (.int n :: .int dp :: .ref a :: .int sp :: .ref b0 :: rest)) := by
  intro T hT X
  obtain ⟨z0, z1, ⟨z2, k0, z3, m0, z4⟩, z5, z6, -, z7, z8⟩ := hX
  have y0 : H[b0]? = some z0 := (hS.2.1 b0 (Array.getElem?_eq_some_iff.mp z1).1 z8).trans z1
  have y1 : H[a]? = some (vp_cell c1 (n1, .inl g)) := hP q1 _ ha1
  obtain ⟨-, k1, y2, m1, y3⟩ := (hK.2 t1 _ ht1).1 n1 (fun j => .int (g j))
  have y4 : ∀ i, i < n.toNatClampNeg → z0.slots.getD (sp.toNatClampNeg + i) .null = .int (f (sp.toNatClampNeg + i)) := fun i hi => by
    rw [Array.getD_eq_getD_getElem?, z7 _ (by omega)]; rfl
  obtain ⟨vm', X', step⟩ := X.arraycopy hexec hown hlink hnat hstat hini (src := b0) (dst := a) (cs := z0) (cd := vp_cell c1 (n1, .inl g)) (srcPos := sp) (destPos := dp) (n := n) (by rw [hT]; exact y0) (by rw [hT]; exact y1)
    z2 (fun _ h => by cases h) z5 (fun h => by cases h) z3 y2 z4 y3 (by simp [refKind]) h1 h2 h3 (by rw [sk_nn h1, sk_nn h3]; omega) (by rw [sk_nn h2, sk_nn h3]; show ¬ _ > ((arrV c1 n1 (fun j => .int (g j))).slots.size : Int); rw [arrV_size]; omega)
    (fun _ _ i hi => by rw [y4 i hi]; exact ⟨rfl, trivial⟩) (g := F0 m pc ls (.int n :: .int dp :: .ref a :: .int sp :: .ref b0 :: rest)) rfl (by rw [hml]) (rest := rest) rfl (by rw [hb]; exact hdg) hframes (by show 2 * 0 + _ + _ ≤ _; omega)
  have y5 : copied z0 (vp_cell c1 (n1, .inl g)) sp dp n = vp_cell c1 (n1, .inl (va_cpy f g sp.toNatClampNeg dp.toNatClampNeg n.toNatClampNeg)) := va_copiedX (fun z => .int z) z0 c1 f g z7 h4
  rw [y5] at X' step
  have y6 : a < H.size := (Array.getElem?_eq_some_iff.mp y1).1
  have y7 : ∀ q : Nat, q ≠ a → (H.setIfInBounds a (vp_cell c1 (n1, .inl (va_cpy f g sp.toNatClampNeg dp.toNatClampNeg n.toNatClampNeg))))[q]? = H[q]? := fun q hq => by simp [Array.getElem?_setIfInBounds, Ne.symm hq]
  obtain ⟨t, b1, b2⟩ := kk _ _ (hP.set hD ha1 (show (H.setIfInBounds a _)[a]? = some _ by simp [Array.getElem?_setIfInBounds, y6]) y7) (hD.set ha1) ⟨by simp; exact hS.1, fun q g1 g2 => (y7 q (fun e9 => g2 (by rw [e9]; exact hD.2 q1 _ ha1))).trans (hS.2.1 q g1 g2), fun q hq => by
    rcases List.mem_append.mp hq with h9 | h9
    · exact hS.2.2 q h9
    · obtain ⟨z, -, hz⟩ := List.mem_map.mp h9
      rw [← hz]
      exact hD.2 q1 _ ha1⟩ _ (show ((T.setVm vm').setCell a (vp_cell c1 (n1, .inl (va_cpy f g sp.toNatClampNeg dp.toNatClampNeg n.toNatClampNeg)))).heap = H.setIfInBounds a _ by rw [← hT]; rfl) X'
  exact ⟨t, step t b1, b2⟩
end SKT
section SKO
variable {M M' : sk_M} {d d' kc ks : Nat} {Z : sk_P} {c : cM} {w : sk_H} {pc : Nat} {lv : List (Nat × Value)} {st As stk : List Value} {k n : Nat}
def sk_ss (own : String) (idx i : Nat) : Prop := (i = 1 ∧ Cond.fieldLink own idx "PackShelf$Sum" "FIRST" "[I" ∈ sk_ws) ∨ (i = 2 ∧ Cond.fieldLink own idx "PackShelf$Sum" "ADDED" "[I" ∈ sk_ws)
theorem go_st (F : sk_F M d kc ks Z) {idx i : Nat} (hd : decode M.2.1 pc = .ok (.getstatic idx, 3)) (hs : sk_ss M.1.cls idx i) (h : Z w (pc + 3) lv (.ref i :: st) k n) : Z w pc lv st k n := by
  obtain ⟨p, l, e, R, s, m, args, below, meth, c', E, ad0, n0, Q, rfl, ⟨hx, hb, hml, hown, hts, hK, hO, hA, hn0, had, hnm⟩, hR⟩ := F
  intro ad H locs ls a1 a2 a3 a4 a5 a6 a7 a8 a9
  have hk := k_sk
  have hl := sk_oW_len a2
  have hi : i < sk_k := by rcases hs with h1 | h1 <;> omega
  have h2 := h ad H locs ls a1 a2 a3 (sk_cons (sk_oV_ref (by omega)) a4) a5 a6 a7 a8 a9
  have e1 : (Value.ref i :: st).map (sk_v ad) = .ref (eO E i) :: st.map (sk_v ad) := by
    show Value.ref (ad i) :: _ = _
    rw [adO a5 hn0 had hi]
  rw [e1] at h2
  rcases hs with ⟨rfl, h1⟩ | ⟨rfl, h1⟩
  · exact va_gets hx hb hO.2.1.2 a9 hown (hts _ h1) (fun _ h9 => h9) hd h2
  · exact va_gets hx hb hO.2.2.1.2 a9 hown (hts _ h1) (fun _ h9 => h9) hd h2
theorem go_iald (F : sk_F M d kc ks Z) {i : Nat} {x : Int32} (hd : decode M.2.1 pc = .ok (.iaload, 1)) (ho : kd i = 202) (hin : vp_in x (ln i)) (h : Z w (pc + 1) lv (.int (oc i x.toNatClampNeg) :: st) k n) : Z w pc lv (.int x :: .ref i :: st) k n := by
  obtain ⟨p, l, e, R, s, m, args, below, meth, c', E, ad0, n0, Q, rfl, ⟨hx, hb, hml, hown, hts, hK, hO, hA, hn0, had, hnm⟩, hR⟩ := F
  intro ad H locs ls a1 a2 a3 a4 a5 a6 a7 a8 a9
  have hk := k_sk
  have h2 := h ad H locs ls a1 a2 a3 (sk_cons sk_oV_int (sk_tail (sk_tail a4))) a5 a6 a7 a8 a9
  have hi : i < sk_k := by rcases k202 ho with h1 | h1 <;> omega
  have e1 : (Value.int x :: .ref i :: st).map (sk_v ad) = .int x :: .ref (eO E i) :: st.map (sk_v ad) := by
    show Value.int x :: Value.ref (ad i) :: _ = _
    rw [adO a5 hn0 had hi]
  rw [e1]
  rcases k202 ho with rfl | rfl
  · exact va_ti hx hb hO.2.1.1 a9 (by rw [k_ln.1] at hin; exact hin) rfl hd h2
  · exact va_ti hx hb hO.2.2.1.1 a9 (by rw [k_ln.2] at hin; exact hin) rfl hd h2
theorem go_bald (F : sk_F M d kc ks Z) {i : Nat} {x : Int32} (hd : decode M.2.1 pc = .ok (.baload, 1)) (ho : kd i = 201) (hin : vp_in x (ln i)) (h : Z w (pc + 1) lv (.int (oc i x.toNatClampNeg) :: st) k n) : Z w pc lv (.int x :: .ref i :: st) k n := by
  obtain ⟨p, l, e, R, s, m, args, below, meth, c', E, ad0, n0, Q, rfl, ⟨hx, hb, hml, hown, hts, hK, hO, hA, hn0, had, hnm⟩, hR⟩ := F
  intro ad H locs ls a1 a2 a3 a4 a5 a6 a7 a8 a9
  have hk := k_sk
  obtain ⟨k1, k2, k3⟩ := k201 ho
  have h2 := h ad H locs ls a1 a2 a3 (sk_cons sk_oV_int (sk_tail (sk_tail a4))) a5 a6 a7 a8 a9
  have e1 : (Value.int x :: .ref i :: st).map (sk_v ad) = .int x :: .ref (eO E (3 + oN + (i - (3 + oN)))) :: st.map (sk_v ad) := by
    show Value.int x :: Value.ref (ad i) :: _ = _
    rw [adO a5 hn0 had (by omega), Nat.add_sub_cancel' k1]
  rw [e1]
  refine va_tb hx hb (hO.2.2.2.1.1 (i - (3 + oN)) (by omega)).2.2.2 a9 (by rw [← k3]; exact hin) ?_ hd h2
  show _ = Value.int (oc i x.toNatClampNeg)
  unfold oc
  rw [if_neg (by omega), if_neg (by omega)]
theorem go_alen (F : sk_F M d kc ks Z) {i : Nat} (hd : decode M.2.1 pc = .ok (.arraylength, 1)) (ho : kd i = 201) (h : Z w (pc + 1) lv (.int (nI (ln i)) :: st) k n) : Z w pc lv (.ref i :: st) k n := by
  obtain ⟨p, l, e, R, s, m, args, below, meth, c', E, ad0, n0, Q, rfl, ⟨hx, hb, hml, hown, hts, hK, hO, hA, hn0, had, hnm⟩, hR⟩ := F
  intro ad H locs ls a1 a2 a3 a4 a5 a6 a7 a8 a9
  have hk := k_sk
  obtain ⟨k1, k2, k3⟩ := k201 ho
  have h2 := h ad H locs ls a1 a2 a3 (sk_cons sk_oV_int (sk_tail a4)) a5 a6 a7 a8 a9
  have e1 : (Value.ref i :: st).map (sk_v ad) = .ref (eO E (3 + oN + (i - (3 + oN)))) :: st.map (sk_v ad) := by
    show Value.ref (ad i) :: _ = _
    rw [adO a5 hn0 had (by omega), Nat.add_sub_cancel' k1]
  rw [e1]
  exact va_tlen hx hb (hO.2.2.2.1.1 (i - (3 + oN)) (by omega)).2.2.2 a9 (by rw [← k3]; rfl) hd h2
theorem go_copy (F : sk_F M d kc ks Z) {idx i0 i1 : Nat} {sp dp N : Int32} (hd : decode M.2.1 pc = .ok (.invokestatic idx, 3)) (hw : Cond.methodLink M.1.cls idx arraycopyName ∈ sk_ws) (hw2 : Cond.native arraycopyName ∈ sk_ws) (hw3 : Cond.static arraycopyName ∈ sk_ws) (hw4 : Cond.initialized "java/lang/System" ∈ sk_ws)
    (ho0 : kd i0 = 202) (ho1 : kd i1 = 100) (h1 : ¬ sp < 0) (h2 : ¬ dp < 0) (h3 : ¬ N < 0) (h4 : sp.toNatClampNeg + N.toNatClampNeg ≤ ln i0) (h5 : dp.toNatClampNeg + N.toNatClampNeg ≤ ln i1) (hdd : 1 ≤ d) (hcat : (st.map fun v => v.category).sum ≤ 8)
    (h : Z (wd (c_row c i1 (c_cp (oc i0) (c i1) sp.toNatClampNeg dp.toNatClampNeg N.toNatClampNeg))) (pc + 3) lv st k n) : Z (wd c) pc lv (.int N :: .int dp :: .ref i1 :: .int sp :: .ref i0 :: st) k n := by
  have hk := k_sk
  have hi : i0 < sk_k := by rcases k202 ho0 with h1 | h1 <;> omega
  have hw' : (wd c).set i1 (.inl (0, (List.range (ln i1)).map (c_cp (oc i0) (c i1) sp.toNatClampNeg dp.toNatClampNeg N.toNatClampNeg))) = wd (c_row c i1 (c_cp (oc i0) (c i1) sp.toNatClampNeg dp.toNatClampNeg N.toNatClampNeg)) := by
    rw [← el_i ho1, wd_set (kd_lt (by omega))]
  rw [← hw'] at h
  obtain ⟨p, l, e, R, s, m, args, below, meth, c', E, ad0, n0, Q, rfl, ⟨hx, hb, hml, hown, hts, hK, hO, hA, hn0, had, hnm⟩, hR⟩ := F
  intro ad H locs ls a1 a2 a3 a4 a5 a6 a7 a8 a9
  have he1 := wd_i (c := c) ho1
  have hg := sk_ge a2 he1 sk_nd1
  have hat := sk_w_at (tc := eT E) (ad := ad) he1 hg
  have hcp : va_cpy (fun j => oc i0 j) (fun j => ((List.range (ln i1)).map (c i1)).getD j 0) sp.toNatClampNeg dp.toNatClampNeg N.toNatClampNeg = fun j => ((List.range (ln i1)).map (c_cp (oc i0) (c i1) sp.toNatClampNeg dp.toNatClampNeg N.toNatClampNeg)).getD j 0 := by
    funext j
    unfold va_cpy c_cp
    by_cases hj : j < ln i1
    · rw [c_rg_at hj]
      by_cases h9 : dp.toNatClampNeg ≤ j ∧ j < dp.toNatClampNeg + N.toNatClampNeg
      · rw [if_pos h9, if_pos h9]
      · rw [if_neg h9, if_neg h9]
        exact c_rg_at hj
    · rw [if_neg (by omega)]
      show ((List.range (ln i1)).map (c i1)).getD j 0 = _
      rw [List.getD_eq_getElem?_getD, List.getD_eq_getElem?_getD, List.getElem?_eq_none_iff.mpr (by rw [c_rg_len]; omega), List.getElem?_eq_none_iff.mpr (by rw [c_rg_len]; omega)]
  have hset : sk_w (eT E) ad ((wd c).set i1 (.inl (0, (List.range (ln i1)).map (c_cp (oc i0) (c i1) sp.toNatClampNeg dp.toNatClampNeg N.toNatClampNeg)))) = (sk_w (eT E) ad (wd c)).set (i1 - sk_k) (ad i1, .inl (eT E 0, ((List.range (ln i1)).map (c i1)).length, .inl (va_cpy (fun j => oc i0 j) (fun j => ((List.range (ln i1)).map (c i1)).getD j 0) sp.toNatClampNeg dp.toNatClampNeg N.toNatClampNeg))) := by
    rw [sk_w_set hg, hcp]
    show (sk_w (eT E) ad (wd c)).set (i1 - sk_k) (ad i1, .inl (eT E 0, ((List.range (ln i1)).map _).length, .inl _)) = _
    rw [c_rg_len, c_rg_len]
  have hk2 : ∀ (H1 : Heap) (locs1 : List Loc), va_P (eD E) vwCl ((sk_w (eT E) ad (wd c)).set (i1 - sk_k) (ad i1, .inl (eT E 0, ((List.range (ln i1)).map (c i1)).length, .inl (va_cpy (fun j => oc i0 j) (fun j => ((List.range (ln i1)).map (c i1)).getD j 0) sp.toNatClampNeg dp.toNatClampNeg N.toNatClampNeg)))) H1 → va_D (eA E) ((sk_w (eT E) ad (wd c)).set (i1 - sk_k) (ad i1, .inl (eT E 0, ((List.range (ln i1)).map (c i1)).length, .inl (va_cpy (fun j => oc i0 j) (fun j => ((List.range (ln i1)).map (c i1)).getD j 0) sp.toNatClampNeg dp.toNatClampNeg N.toNatClampNeg)))) → va_S (eA E) s.heap H1 locs1 → W p l e R s m args below meth c' H1 locs1 k n Q (F0 m (pc + 3) ls (st.map (sk_v ad))) := by
    intro H1 locs1 b1 b2 b3
    rw [← hset] at b1 b2
    exact h ad H1 locs1 ls (by rw [List.length_set]; exact a1) (sk_oW_set a2 hg trivial) (by rw [List.length_set]; exact a3) (by rw [List.length_set]; exact sk_tail (sk_tail (sk_tail (sk_tail (sk_tail a4))))) a5 a6 b1 b2 b3
  have e1 : (Value.int N :: .int dp :: .ref i1 :: .int sp :: .ref i0 :: st).map (sk_v ad) = .int N :: .int dp :: .ref (ad i1) :: .int sp :: .ref (eO E i0) :: st.map (sk_v ad) := by
    show Value.int N :: .int dp :: .ref (ad i1) :: .int sp :: .ref (ad i0) :: _ = _
    rw [adO a5 hn0 had hi]
  rw [e1]
  have h5' : dp.toNatClampNeg + N.toNatClampNeg ≤ ((List.range (ln i1)).map (c i1)).length := by rw [c_rg_len]; exact h5
  rcases k202 ho0 with rfl | rfl
  · exact sk_copyT hx hb (hml.trans a6.1.symm) hown (hts _ hw) (hts _ hw2) (hts _ hw3) (hts _ hw4) hK a7 a8 a9 hO.2.1.1 (i1 - sk_k) 0 hat (sk_ty rfl) h1 h2 h3 (by rw [k_ln.1] at h4; exact h4) h5' (Nat.le_trans hdd hR.1) (sk_natw hcat hR hdd) hd hk2
  · exact sk_copyT hx hb (hml.trans a6.1.symm) hown (hts _ hw) (hts _ hw2) (hts _ hw3) (hts _ hw4) hK a7 a8 a9 hO.2.2.1.1 (i1 - sk_k) 0 hat (sk_ty rfl) h1 h2 h3 (by rw [k_ln.2] at h4; exact h4) h5' (Nat.le_trans hdd hR.1) (sk_natw hcat hR hdd) hd hk2
def sk_sv (own : String) (idx : Nat) : Prop := Cond.fieldLink own idx "java/lang/String" "value" "[B" ∈ sk_ws
def sk_sc (own : String) (idx : Nat) : Prop := Cond.fieldLink own idx "java/lang/String" "coder" "B" ∈ sk_ws
theorem go_strV (F : sk_F M d kc ks Z) {idx i : Nat} (hd : decode M.2.1 pc = .ok (.getfield idx, 3)) (hs : sk_sv M.1.cls idx) (ho : kd i = 200) (h : Z w (pc + 3) lv (.ref (rf i 0) :: st) k n) : Z w pc lv (.ref i :: st) k n := by
  obtain ⟨p, l, e, R, s, m, args, below, meth, c', E, ad0, n0, Q, rfl, ⟨hx, hb, hml, hown, hts, hK, hO, hA, hn0, had, hnm⟩, hR⟩ := F
  intro ad H locs ls a1 a2 a3 a4 a5 a6 a7 a8 a9
  have hk := k_sk
  have hl := sk_oW_len a2
  obtain ⟨k1, k2, k3⟩ := k200 ho
  rw [k3] at h
  have h2 := h ad H locs ls a1 a2 a3 (sk_cons (sk_oV_ref (by omega)) (sk_tail a4)) a5 a6 a7 a8 a9
  have e1 : (Value.ref i :: st).map (sk_v ad) = .ref (eO E (3 + (i - 3))) :: st.map (sk_v ad) := by
    show Value.ref (ad i) :: _ = _
    rw [adO a5 hn0 had (by omega), Nat.add_sub_cancel' k1]
  have e2 : (Value.ref (i + oN) :: st).map (sk_v ad) = .ref (eO E (3 + oN + (i - 3))) :: st.map (sk_v ad) := by
    show Value.ref (ad (i + oN)) :: _ = _
    rw [adO a5 hn0 had (by omega), show 3 + oN + (i - 3) = i + oN by omega]
  rw [e1]
  rw [e2] at h2
  exact vk_getf hx hb (hO.2.2.2.1.1 (i - 3) (by omega)).2.2.1 a9 hown (hts _ hs) (fun _ h9 => h9) hd h2
theorem go_strC (F : sk_F M d kc ks Z) {idx i : Nat} (hd : decode M.2.1 pc = .ok (.getfield idx, 3)) (hs : sk_sc M.1.cls idx) (ho : kd i = 200) (h : Z w (pc + 3) lv (.int 0 :: st) k n) : Z w pc lv (.ref i :: st) k n := by
  obtain ⟨p, l, e, R, s, m, args, below, meth, c', E, ad0, n0, Q, rfl, ⟨hx, hb, hml, hown, hts, hK, hO, hA, hn0, had, hnm⟩, hR⟩ := F
  intro ad H locs ls a1 a2 a3 a4 a5 a6 a7 a8 a9
  have hk := k_sk
  obtain ⟨k1, k2, k3⟩ := k200 ho
  have h2 := h ad H locs ls a1 a2 a3 (sk_cons sk_oV_int (sk_tail a4)) a5 a6 a7 a8 a9
  have e1 : (Value.ref i :: st).map (sk_v ad) = .ref (eO E (3 + (i - 3))) :: st.map (sk_v ad) := by
    show Value.ref (ad i) :: _ = _
    rw [adO a5 hn0 had (by omega), Nat.add_sub_cancel' k1]
  rw [e1]
  exact vk_getf hx hb (hO.2.2.2.1.1 (i - 3) (by omega)).2.1 a9 hown (hts _ hs) (fun _ h9 => h9) hd h2
def sk_sr (own : String) (idx i : Nat) : Prop := ∃ (tx : String) (j : Nat), (own, idx, tx, j) ∈ oR ∧ i = 3 + j ∧ j < oN
theorem go_ldc (F : sk_F M d kc ks Z) {idx i : Nat} (hd : decode M.2.1 pc = .ok (.ldc idx, 2)) (hs : sk_sr M.1.cls idx i) (h : Z w (pc + 2) lv (.ref i :: st) k n) : Z w pc lv st k n := by
  obtain ⟨p, l, e, R, s, m, args, below, meth, c', E, ad0, n0, Q, rfl, ⟨hx, hb, hml, hown, hts, hK, hO, hA, hn0, had, hnm⟩, hR⟩ := F
  intro ad H locs ls a1 a2 a3 a4 a5 a6 a7 a8 a9
  have hk := k_sk
  have hl := sk_oW_len a2
  obtain ⟨tx, j, h1, rfl, h3⟩ := hs
  have h2 := h ad H locs ls a1 a2 a3 (sk_cons (sk_oV_ref (by omega)) a4) a5 a6 a7 a8 a9
  have e1 : (Value.ref (3 + j) :: st).map (sk_v ad) = .ref (eO E (3 + j)) :: st.map (sk_v ad) := by
    show Value.ref (ad (3 + j)) :: _ = _
    rw [adO a5 hn0 had (by omega)]
  rw [e1] at h2
  exact va_ldcS hx hb hown (hO.2.2.2.2.1 _ h1) hd h2
theorem go_callV (F : sk_F M d kc ks Z) {Po' : Option Value → sk_H → Prop} {idx b kc' ks' : Nat} (hd : decode M.2.1 pc = .ok (.invokevirtual idx, 3)) (hB : sk_cB M.1.cls idx M') (hI : Cond.instanceMethod M'.1 ∈ sk_ws ∧ Cond.selects M'.1.cls M'.1 M'.1 ∈ sk_ws) (hp : sk_nP M' As.length) (ho : kd b = 200) (hS' : M'.1.cls = "java/lang/String")
    (hC : Ct M' d' kc' ks' w (.ref b :: As) Po') (hstk : stk = As.reverse ++ .ref b :: st) (hdd : d' + 1 ≤ d) (hk : k + kc' ≤ kc) (hn : n + ks' ≤ ks) (hcat : (st.map fun v => v.category).sum ≤ 8)
    (h : ∀ r w', Po' r w' → w.length ≤ w'.length → Z w' (pc + 3) lv (r.toList ++ st) (k + kc') (n + ks')) : Z w pc lv stk k n := by
  obtain ⟨p, l, e, R, s, m, args, below, meth, c', E, ad0, n0, Q, rfl, ⟨hx, hb, hml, hown, hts, hK, hO, hA, hn0, had, hnm⟩, hR⟩ := F
  intro ad H locs ls a1 a2 a3 a4 a5 a6 a7 a8 a9
  obtain ⟨o1, o2⟩ := sk_mapok (st := .ref b :: st) hstk a4
  have hk' := k_sk
  obtain ⟨k1, k2, k3⟩ := k200 ho
  have hrecv : ∃ cell : Cell, H[ad b]? = some cell ∧ cell.vm.isStatics = false ∧ s.vm.findClass M'.1.cls = some cell.cls := by
    have h9 := vk_recv (i := b - 3) hO.2.2.2.1 (by omega) a9
    rw [show 3 + (b - 3) = b by omega, ← adO a5 hn0 had (by omega)] at h9
    rw [hS']
    exact h9
  have hrun := va_runV (e := e) (below := below) (meth := meth) (Ts := sk_ws) (As := As.map (sk_v ad)) (rest := st.map (sk_v ad)) (b := ad b) (g := F0 m pc ls (stk.map (sk_v ad))) (H := H) (locs := locs) (cells := k) (slots := n) ⟨hx, hb, hml, hown, hts⟩ (hC l E ad a2 (sk_cons (sk_hd o2) o1) (fun i hi => (a5 i (Nat.lt_of_lt_of_le hi hn0)).trans (had i hi)))
    ⟨sk_callB (kc := kc) (ks := ks) hB hp hts hR hdd, hts _ hI.1, hts _ hI.2⟩ ⟨sk_blind, hrecv, sk_at hK hO hA a7 a8 a9⟩ rfl (List.length_map _) a6.1 (by rw [hstk, List.map_append, List.map_reverse]; rfl) (lv_room (by rw [sk_cats]; exact hcat)) hd ⟨Nat.le_trans hk hR.2.1, Nat.le_trans hn hR.2.2.1⟩
  refine sk_after hrun a9 (fun r w' ad' H1 locs1 c1 c2 c3 c4 c5 c6 c7 c8 => ?_)
  have e2 : st.map (sk_v ad) = st.map (sk_v ad') := List.map_congr_left (fun v hv => (sk_v_agree c5 (sk_tail o2 v hv)).symm)
  have e3 : sk_l ad lv = sk_l ad' lv := List.map_congr_left (fun v hv => by rw [sk_v_agree c5 (a3 v hv)])
  rw [e2, ← sk_pushm]
  exact h r w' c1 c2 ad' H1 locs1 ls (Nat.le_trans a1 c2) c3 (fun q hq => sk_oV_mono (a3 q hq) c2) (sk_push c4 (fun v hv => sk_oV_mono (sk_tail o2 v hv) c2)) (fun i hi => (c5 i (Nat.lt_of_lt_of_le hi a1)).trans (a5 i hi)) (by rw [← e3]; exact a6) c6 c7 c8
theorem go_callVI (F : sk_F M d kc ks Z) {K : Int32 → cM → Prop} {idx b : Nat} (hd : decode M.2.1 pc = .ok (.invokevirtual idx, 3)) (hB : sk_cB M.1.cls idx M') (hI : Cond.instanceMethod M'.1 ∈ sk_ws ∧ Cond.selects M'.1.cls M'.1 M'.1 ∈ sk_ws) (hp : sk_nP M' As.length) (ho : kd b = 200) (hS' : M'.1.cls = "java/lang/String") (hC : Ct M' d' 0 0 (wd c) (.ref b :: As) (PoI K)) (hstk : stk = As.reverse ++ .ref b :: st) (hdd : d' + 1 ≤ d) (hk : k ≤ kc) (hn : n ≤ ks) (hcat : (st.map fun v => v.category).sum ≤ 8)
    (h : ∀ v c1, K v c1 → Z (wd c1) (pc + 3) lv (.int v :: st) k n) : Z (wd c) pc lv stk k n :=
  go_callV F hd hB hI hp ho hS' hC hstk hdd hk hn hcat (fun r w' hp9 _ => PoI.el (P := fun r w' => Z w' (pc + 3) lv (r.toList ++ st) (k + 0) (n + 0)) hp9 (fun v c1 h1 => h v c1 h1))
end SKO
end
