section
-- ===== PART A: goes FIRST, ahead of the names: the tables' words, and 'selects' of the private methods out of them =====
/-- a private method of a class that the tables say can be made, by its rows of tables_1 -/
def lw_okq (q : MethodName × Nat) : Prop := (q.1.cls ≠ "java/lang/invoke/MethodHandle" ∧ q.1.cls ≠ "java/lang/invoke/VarHandle") ∧ Cond.instantiable q.1.cls q.2 ∈ tables_1 ∧ Cond.privateMethod q.1 ∈ tables_1 ∧ Cond.instanceMethod q.1 ∈ tables_1
theorem lw_p0 : lw_okq (⟨"PathHouse", "tapeFour", "(I)V"⟩, 10) := ⟨⟨by decide +kernel, by decide +kernel⟩, List.mem_of_getElem? (i := 36) (by decide +kernel), List.mem_of_getElem? (i := 188) (by decide +kernel), List.mem_of_getElem? (i := 189) (by decide +kernel)⟩
theorem lw_p1 : lw_okq (⟨"PathHouse", "begin", "(I)Z"⟩, 10) := ⟨⟨by decide +kernel, by decide +kernel⟩, List.mem_of_getElem? (i := 36) (by decide +kernel), List.mem_of_getElem? (i := 197) (by decide +kernel), List.mem_of_getElem? (i := 198) (by decide +kernel)⟩
theorem lw_p2 : lw_okq (⟨"PathHouse$Reader", "begin", "(I)V"⟩, 7) := ⟨⟨by decide +kernel, by decide +kernel⟩, List.mem_of_getElem? (i := 44) (by decide +kernel), List.mem_of_getElem? (i := 201) (by decide +kernel), List.mem_of_getElem? (i := 202) (by decide +kernel)⟩
theorem lw_p3 : lw_okq (⟨"PathHouse$ValueReader", "whole", "()LPathHouse$Node;"⟩, 3) := ⟨⟨by decide +kernel, by decide +kernel⟩, List.mem_of_getElem? (i := 79) (by decide +kernel), List.mem_of_getElem? (i := 208) (by decide +kernel), List.mem_of_getElem? (i := 209) (by decide +kernel)⟩
theorem lw_p4 : lw_okq (⟨"PathHouse$Reader", "skipBlanks", "()V"⟩, 7) := ⟨⟨by decide +kernel, by decide +kernel⟩, List.mem_of_getElem? (i := 44) (by decide +kernel), List.mem_of_getElem? (i := 212) (by decide +kernel), List.mem_of_getElem? (i := 213) (by decide +kernel)⟩
theorem lw_p5 : lw_okq (⟨"PathHouse$Reader", "isBlank", "()Z"⟩, 7) := ⟨⟨by decide +kernel, by decide +kernel⟩, List.mem_of_getElem? (i := 44) (by decide +kernel), List.mem_of_getElem? (i := 216) (by decide +kernel), List.mem_of_getElem? (i := 217) (by decide +kernel)⟩
theorem lw_p6 : lw_okq (⟨"PathHouse$Reader", "here", "()I"⟩, 7) := ⟨⟨by decide +kernel, by decide +kernel⟩, List.mem_of_getElem? (i := 44) (by decide +kernel), List.mem_of_getElem? (i := 220) (by decide +kernel), List.mem_of_getElem? (i := 221) (by decide +kernel)⟩
theorem lw_p7 : lw_okq (⟨"PathHouse$ValueReader", "readNode", "(LPathHouse$Node;I)LPathHouse$Node;"⟩, 3) := ⟨⟨by decide +kernel, by decide +kernel⟩, List.mem_of_getElem? (i := 79) (by decide +kernel), List.mem_of_getElem? (i := 224) (by decide +kernel), List.mem_of_getElem? (i := 225) (by decide +kernel)⟩
theorem lw_p8 : lw_okq (⟨"PathHouse$Reader", "fail", "(II)V"⟩, 7) := ⟨⟨by decide +kernel, by decide +kernel⟩, List.mem_of_getElem? (i := 44) (by decide +kernel), List.mem_of_getElem? (i := 235) (by decide +kernel), List.mem_of_getElem? (i := 236) (by decide +kernel)⟩
theorem lw_p9 : lw_okq (⟨"java/lang/Throwable", "fillInStackTrace", "(I)Ljava/lang/Throwable;"⟩, 6) := ⟨⟨by decide +kernel, by decide +kernel⟩, List.mem_of_getElem? (i := 278) (by decide +kernel), List.mem_of_getElem? (i := 276) (by decide +kernel), List.mem_of_getElem? (i := 277) (by decide +kernel)⟩
theorem lw_p10 : lw_okq (⟨"PathHouse$ValueReader", "readRest", "(LPathHouse$Node;)V"⟩, 3) := ⟨⟨by decide +kernel, by decide +kernel⟩, List.mem_of_getElem? (i := 79) (by decide +kernel), List.mem_of_getElem? (i := 399) (by decide +kernel), List.mem_of_getElem? (i := 400) (by decide +kernel)⟩
theorem lw_p11 : lw_okq (⟨"PathHouse$Reader", "expectWord", "(Ljava/lang/String;)V"⟩, 7) := ⟨⟨by decide +kernel, by decide +kernel⟩, List.mem_of_getElem? (i := 44) (by decide +kernel), List.mem_of_getElem? (i := 404) (by decide +kernel), List.mem_of_getElem? (i := 405) (by decide +kernel)⟩
theorem lw_p12 : lw_okq (⟨"PathHouse$Reader", "expect", "(I)V"⟩, 7) := ⟨⟨by decide +kernel, by decide +kernel⟩, List.mem_of_getElem? (i := 44) (by decide +kernel), List.mem_of_getElem? (i := 456) (by decide +kernel), List.mem_of_getElem? (i := 457) (by decide +kernel)⟩
theorem lw_p13 : lw_okq (⟨"PathHouse$ValueReader", "readInt", "()J"⟩, 3) := ⟨⟨by decide +kernel, by decide +kernel⟩, List.mem_of_getElem? (i := 79) (by decide +kernel), List.mem_of_getElem? (i := 463) (by decide +kernel), List.mem_of_getElem? (i := 464) (by decide +kernel)⟩
theorem lw_p14 : lw_okq (⟨"PathHouse$Reader", "wholeNumber", "(Z)J"⟩, 7) := ⟨⟨by decide +kernel, by decide +kernel⟩, List.mem_of_getElem? (i := 44) (by decide +kernel), List.mem_of_getElem? (i := 467) (by decide +kernel), List.mem_of_getElem? (i := 468) (by decide +kernel)⟩
theorem lw_p15 : lw_okq (⟨"PathHouse$Reader", "string", "()[I"⟩, 7) := ⟨⟨by decide +kernel, by decide +kernel⟩, List.mem_of_getElem? (i := 44) (by decide +kernel), List.mem_of_getElem? (i := 482) (by decide +kernel), List.mem_of_getElem? (i := 483) (by decide +kernel)⟩
def lw_privs_1 : List (MethodName × Nat) := [(⟨"PathHouse", "tapeFour", "(I)V"⟩, 10), (⟨"PathHouse", "begin", "(I)Z"⟩, 10), (⟨"PathHouse$Reader", "begin", "(I)V"⟩, 7), (⟨"PathHouse$ValueReader", "whole", "()LPathHouse$Node;"⟩, 3), (⟨"PathHouse$Reader", "skipBlanks", "()V"⟩, 7), (⟨"PathHouse$Reader", "isBlank", "()Z"⟩, 7), (⟨"PathHouse$Reader", "here", "()I"⟩, 7), (⟨"PathHouse$ValueReader", "readNode", "(LPathHouse$Node;I)LPathHouse$Node;"⟩, 3), (⟨"PathHouse$Reader", "fail", "(II)V"⟩, 7), (⟨"java/lang/Throwable", "fillInStackTrace", "(I)Ljava/lang/Throwable;"⟩, 6), (⟨"PathHouse$ValueReader", "readRest", "(LPathHouse$Node;)V"⟩, 3), (⟨"PathHouse$Reader", "expectWord", "(Ljava/lang/String;)V"⟩, 7), (⟨"PathHouse$Reader", "expect", "(I)V"⟩, 7), (⟨"PathHouse$ValueReader", "readInt", "()J"⟩, 3), (⟨"PathHouse$Reader", "wholeNumber", "(Z)J"⟩, 7), (⟨"PathHouse$Reader", "string", "()[I"⟩, 7)]
theorem lw_r1 : ∀ q ∈ lw_privs_1, lw_okq q := List.forall_mem_cons.mpr ⟨lw_p0, List.forall_mem_cons.mpr ⟨lw_p1, List.forall_mem_cons.mpr ⟨lw_p2, List.forall_mem_cons.mpr ⟨lw_p3, List.forall_mem_cons.mpr ⟨lw_p4, List.forall_mem_cons.mpr ⟨lw_p5, List.forall_mem_cons.mpr ⟨lw_p6, List.forall_mem_cons.mpr ⟨lw_p7, List.forall_mem_cons.mpr ⟨lw_p8, List.forall_mem_cons.mpr ⟨lw_p9, List.forall_mem_cons.mpr ⟨lw_p10, List.forall_mem_cons.mpr ⟨lw_p11, List.forall_mem_cons.mpr ⟨lw_p12, List.forall_mem_cons.mpr ⟨lw_p13, List.forall_mem_cons.mpr ⟨lw_p14, List.forall_mem_cons.mpr ⟨lw_p15, fun _ h => absurd h List.not_mem_nil⟩⟩⟩⟩⟩⟩⟩⟩⟩⟩⟩⟩⟩⟩⟩⟩
theorem lw_p16 : lw_okq (⟨"PathHouse$Reader", "escaped", "(I)I"⟩, 7) := ⟨⟨by decide +kernel, by decide +kernel⟩, List.mem_of_getElem? (i := 44) (by decide +kernel), List.mem_of_getElem? (i := 486) (by decide +kernel), List.mem_of_getElem? (i := 487) (by decide +kernel)⟩
theorem lw_p17 : lw_okq (⟨"PathHouse$Reader", "hexFour", "(Z)I"⟩, 7) := ⟨⟨by decide +kernel, by decide +kernel⟩, List.mem_of_getElem? (i := 44) (by decide +kernel), List.mem_of_getElem? (i := 493) (by decide +kernel), List.mem_of_getElem? (i := 494) (by decide +kernel)⟩
theorem lw_p18 : lw_okq (⟨"PathHouse$Reader", "codePoint", "()I"⟩, 7) := ⟨⟨by decide +kernel, by decide +kernel⟩, List.mem_of_getElem? (i := 44) (by decide +kernel), List.mem_of_getElem? (i := 503) (by decide +kernel), List.mem_of_getElem? (i := 504) (by decide +kernel)⟩
theorem lw_p19 : lw_okq (⟨"PathHouse$Reader", "byteAt", "(I)I"⟩, 7) := ⟨⟨by decide +kernel, by decide +kernel⟩, List.mem_of_getElem? (i := 44) (by decide +kernel), List.mem_of_getElem? (i := 510) (by decide +kernel), List.mem_of_getElem? (i := 511) (by decide +kernel)⟩
theorem lw_p20 : lw_okq (⟨"PathHouse$Reader", "keep", "(I)V"⟩, 7) := ⟨⟨by decide +kernel, by decide +kernel⟩, List.mem_of_getElem? (i := 44) (by decide +kernel), List.mem_of_getElem? (i := 519) (by decide +kernel), List.mem_of_getElem? (i := 520) (by decide +kernel)⟩
theorem lw_p21 : lw_okq (⟨"PathHouse$Reader", "kept", "()[I"⟩, 7) := ⟨⟨by decide +kernel, by decide +kernel⟩, List.mem_of_getElem? (i := 44) (by decide +kernel), List.mem_of_getElem? (i := 523) (by decide +kernel), List.mem_of_getElem? (i := 524) (by decide +kernel)⟩
theorem lw_p22 : lw_okq (⟨"PathHouse$ValueReader", "readElements", "(LPathHouse$Node;)V"⟩, 3) := ⟨⟨by decide +kernel, by decide +kernel⟩, List.mem_of_getElem? (i := 79) (by decide +kernel), List.mem_of_getElem? (i := 541) (by decide +kernel), List.mem_of_getElem? (i := 542) (by decide +kernel)⟩
theorem lw_p23 : lw_okq (⟨"PathHouse$ValueReader", "takesEmpty", "(I)Z"⟩, 3) := ⟨⟨by decide +kernel, by decide +kernel⟩, List.mem_of_getElem? (i := 79) (by decide +kernel), List.mem_of_getElem? (i := 545) (by decide +kernel), List.mem_of_getElem? (i := 546) (by decide +kernel)⟩
theorem lw_p24 : lw_okq (⟨"PathHouse$Node", "adopt", "(LPathHouse$Node;[I)V"⟩, 11) := ⟨⟨by decide +kernel, by decide +kernel⟩, List.mem_of_getElem? (i := 307) (by decide +kernel), List.mem_of_getElem? (i := 549) (by decide +kernel), List.mem_of_getElem? (i := 550) (by decide +kernel)⟩
theorem lw_p25 : lw_okq (⟨"java/util/ArrayList", "add", "(Ljava/lang/Object;[Ljava/lang/Object;I)V"⟩, 3) := ⟨⟨by decide +kernel, by decide +kernel⟩, List.mem_of_getElem? (i := 313) (by decide +kernel), List.mem_of_getElem? (i := 561) (by decide +kernel), List.mem_of_getElem? (i := 562) (by decide +kernel)⟩
theorem lw_p26 : lw_okq (⟨"java/util/ArrayList", "grow", "()[Ljava/lang/Object;"⟩, 3) := ⟨⟨by decide +kernel, by decide +kernel⟩, List.mem_of_getElem? (i := 313) (by decide +kernel), List.mem_of_getElem? (i := 565) (by decide +kernel), List.mem_of_getElem? (i := 566) (by decide +kernel)⟩
theorem lw_p27 : lw_okq (⟨"java/util/ArrayList", "grow", "(I)[Ljava/lang/Object;"⟩, 3) := ⟨⟨by decide +kernel, by decide +kernel⟩, List.mem_of_getElem? (i := 313) (by decide +kernel), List.mem_of_getElem? (i := 569) (by decide +kernel), List.mem_of_getElem? (i := 570) (by decide +kernel)⟩
theorem lw_p28 : lw_okq (⟨"PathHouse$Reader", "takeComma", "()Z"⟩, 7) := ⟨⟨by decide +kernel, by decide +kernel⟩, List.mem_of_getElem? (i := 44) (by decide +kernel), List.mem_of_getElem? (i := 618) (by decide +kernel), List.mem_of_getElem? (i := 619) (by decide +kernel)⟩
theorem lw_p29 : lw_okq (⟨"PathHouse$ValueReader", "readMembers", "(LPathHouse$Node;)V"⟩, 3) := ⟨⟨by decide +kernel, by decide +kernel⟩, List.mem_of_getElem? (i := 79) (by decide +kernel), List.mem_of_getElem? (i := 624) (by decide +kernel), List.mem_of_getElem? (i := 625) (by decide +kernel)⟩
theorem lw_p30 : lw_okq (⟨"PathHouse$ValueReader", "readMember", "(LPathHouse$Node;)V"⟩, 3) := ⟨⟨by decide +kernel, by decide +kernel⟩, List.mem_of_getElem? (i := 79) (by decide +kernel), List.mem_of_getElem? (i := 628) (by decide +kernel), List.mem_of_getElem? (i := 629) (by decide +kernel)⟩
theorem lw_p31 : lw_okq (⟨"PathHouse$Node", "member", "([I)LPathHouse$Node;"⟩, 11) := ⟨⟨by decide +kernel, by decide +kernel⟩, List.mem_of_getElem? (i := 307) (by decide +kernel), List.mem_of_getElem? (i := 632) (by decide +kernel), List.mem_of_getElem? (i := 633) (by decide +kernel)⟩
def lw_privs_2 : List (MethodName × Nat) := [(⟨"PathHouse$Reader", "escaped", "(I)I"⟩, 7), (⟨"PathHouse$Reader", "hexFour", "(Z)I"⟩, 7), (⟨"PathHouse$Reader", "codePoint", "()I"⟩, 7), (⟨"PathHouse$Reader", "byteAt", "(I)I"⟩, 7), (⟨"PathHouse$Reader", "keep", "(I)V"⟩, 7), (⟨"PathHouse$Reader", "kept", "()[I"⟩, 7), (⟨"PathHouse$ValueReader", "readElements", "(LPathHouse$Node;)V"⟩, 3), (⟨"PathHouse$ValueReader", "takesEmpty", "(I)Z"⟩, 3), (⟨"PathHouse$Node", "adopt", "(LPathHouse$Node;[I)V"⟩, 11), (⟨"java/util/ArrayList", "add", "(Ljava/lang/Object;[Ljava/lang/Object;I)V"⟩, 3), (⟨"java/util/ArrayList", "grow", "()[Ljava/lang/Object;"⟩, 3), (⟨"java/util/ArrayList", "grow", "(I)[Ljava/lang/Object;"⟩, 3), (⟨"PathHouse$Reader", "takeComma", "()Z"⟩, 7), (⟨"PathHouse$ValueReader", "readMembers", "(LPathHouse$Node;)V"⟩, 3), (⟨"PathHouse$ValueReader", "readMember", "(LPathHouse$Node;)V"⟩, 3), (⟨"PathHouse$Node", "member", "([I)LPathHouse$Node;"⟩, 11)]
theorem lw_r2 : ∀ q ∈ lw_privs_2, lw_okq q := List.forall_mem_cons.mpr ⟨lw_p16, List.forall_mem_cons.mpr ⟨lw_p17, List.forall_mem_cons.mpr ⟨lw_p18, List.forall_mem_cons.mpr ⟨lw_p19, List.forall_mem_cons.mpr ⟨lw_p20, List.forall_mem_cons.mpr ⟨lw_p21, List.forall_mem_cons.mpr ⟨lw_p22, List.forall_mem_cons.mpr ⟨lw_p23, List.forall_mem_cons.mpr ⟨lw_p24, List.forall_mem_cons.mpr ⟨lw_p25, List.forall_mem_cons.mpr ⟨lw_p26, List.forall_mem_cons.mpr ⟨lw_p27, List.forall_mem_cons.mpr ⟨lw_p28, List.forall_mem_cons.mpr ⟨lw_p29, List.forall_mem_cons.mpr ⟨lw_p30, List.forall_mem_cons.mpr ⟨lw_p31, fun _ h => absurd h List.not_mem_nil⟩⟩⟩⟩⟩⟩⟩⟩⟩⟩⟩⟩⟩⟩⟩⟩
theorem lw_p32 : lw_okq (⟨"PathHouse$Finder", "forget", "()V"⟩, 5) := ⟨⟨by decide +kernel, by decide +kernel⟩, List.mem_of_getElem? (i := 114) (by decide +kernel), List.mem_of_getElem? (i := 652) (by decide +kernel), List.mem_of_getElem? (i := 653) (by decide +kernel)⟩
theorem lw_p33 : lw_okq (⟨"PathHouse$QueryReader", "whole", "()LPathHouse$Path;"⟩, 4) := ⟨⟨by decide +kernel, by decide +kernel⟩, List.mem_of_getElem? (i := 95) (by decide +kernel), List.mem_of_getElem? (i := 660) (by decide +kernel), List.mem_of_getElem? (i := 661) (by decide +kernel)⟩
theorem lw_p34 : lw_okq (⟨"PathHouse$QueryReader", "readSegments", "(LPathHouse$Path;Z)I"⟩, 4) := ⟨⟨by decide +kernel, by decide +kernel⟩, List.mem_of_getElem? (i := 95) (by decide +kernel), List.mem_of_getElem? (i := 691) (by decide +kernel), List.mem_of_getElem? (i := 692) (by decide +kernel)⟩
theorem lw_p35 : lw_okq (⟨"PathHouse$QueryReader", "readSegment", "(LPathHouse$Path;Z)V"⟩, 4) := ⟨⟨by decide +kernel, by decide +kernel⟩, List.mem_of_getElem? (i := 95) (by decide +kernel), List.mem_of_getElem? (i := 696) (by decide +kernel), List.mem_of_getElem? (i := 697) (by decide +kernel)⟩
theorem lw_p36 : lw_okq (⟨"PathHouse$QueryReader", "readBrackets", "(LPathHouse$Segment;Z)Z"⟩, 4) := ⟨⟨by decide +kernel, by decide +kernel⟩, List.mem_of_getElem? (i := 95) (by decide +kernel), List.mem_of_getElem? (i := 719) (by decide +kernel), List.mem_of_getElem? (i := 720) (by decide +kernel)⟩
theorem lw_p37 : lw_okq (⟨"PathHouse$QueryReader", "readSelector", "(Z)LPathHouse$Selector;"⟩, 4) := ⟨⟨by decide +kernel, by decide +kernel⟩, List.mem_of_getElem? (i := 95) (by decide +kernel), List.mem_of_getElem? (i := 724) (by decide +kernel), List.mem_of_getElem? (i := 725) (by decide +kernel)⟩
theorem lw_p38 : lw_okq (⟨"PathHouse$QueryReader", "atString", "()Z"⟩, 4) := ⟨⟨by decide +kernel, by decide +kernel⟩, List.mem_of_getElem? (i := 95) (by decide +kernel), List.mem_of_getElem? (i := 728) (by decide +kernel), List.mem_of_getElem? (i := 729) (by decide +kernel)⟩
theorem lw_p39 : lw_okq (⟨"PathHouse$QueryReader", "atInt", "()Z"⟩, 4) := ⟨⟨by decide +kernel, by decide +kernel⟩, List.mem_of_getElem? (i := 95) (by decide +kernel), List.mem_of_getElem? (i := 773) (by decide +kernel), List.mem_of_getElem? (i := 774) (by decide +kernel)⟩
theorem lw_p40 : lw_okq (⟨"PathHouse$QueryReader", "readIndexed", "(Z)LPathHouse$Selector;"⟩, 4) := ⟨⟨by decide +kernel, by decide +kernel⟩, List.mem_of_getElem? (i := 95) (by decide +kernel), List.mem_of_getElem? (i := 778) (by decide +kernel), List.mem_of_getElem? (i := 779) (by decide +kernel)⟩
theorem lw_p41 : lw_okq (⟨"PathHouse$QueryReader", "readInt", "(Z)J"⟩, 4) := ⟨⟨by decide +kernel, by decide +kernel⟩, List.mem_of_getElem? (i := 95) (by decide +kernel), List.mem_of_getElem? (i := 782) (by decide +kernel), List.mem_of_getElem? (i := 783) (by decide +kernel)⟩
theorem lw_p42 : lw_okq (⟨"PathHouse$QueryReader", "note", "(II)V"⟩, 4) := ⟨⟨by decide +kernel, by decide +kernel⟩, List.mem_of_getElem? (i := 95) (by decide +kernel), List.mem_of_getElem? (i := 788) (by decide +kernel), List.mem_of_getElem? (i := 789) (by decide +kernel)⟩
theorem lw_p43 : lw_okq (⟨"PathHouse$QueryReader", "readSlice", "(ZJ)LPathHouse$Selector;"⟩, 4) := ⟨⟨by decide +kernel, by decide +kernel⟩, List.mem_of_getElem? (i := 95) (by decide +kernel), List.mem_of_getElem? (i := 792) (by decide +kernel), List.mem_of_getElem? (i := 793) (by decide +kernel)⟩
theorem lw_p44 : lw_okq (⟨"PathHouse$QueryReader", "readFilter", "()LPathHouse$Selector;"⟩, 4) := ⟨⟨by decide +kernel, by decide +kernel⟩, List.mem_of_getElem? (i := 95) (by decide +kernel), List.mem_of_getElem? (i := 796) (by decide +kernel), List.mem_of_getElem? (i := 797) (by decide +kernel)⟩
theorem lw_p45 : lw_okq (⟨"PathHouse$QueryReader", "enter", "()V"⟩, 4) := ⟨⟨by decide +kernel, by decide +kernel⟩, List.mem_of_getElem? (i := 95) (by decide +kernel), List.mem_of_getElem? (i := 800) (by decide +kernel), List.mem_of_getElem? (i := 801) (by decide +kernel)⟩
theorem lw_p46 : lw_okq (⟨"PathHouse$QueryReader", "readOr", "(LPathHouse$Term;)LPathHouse$Term;"⟩, 4) := ⟨⟨by decide +kernel, by decide +kernel⟩, List.mem_of_getElem? (i := 95) (by decide +kernel), List.mem_of_getElem? (i := 804) (by decide +kernel), List.mem_of_getElem? (i := 805) (by decide +kernel)⟩
theorem lw_p47 : lw_okq (⟨"PathHouse$QueryReader", "readAnd", "(LPathHouse$Term;)LPathHouse$Term;"⟩, 4) := ⟨⟨by decide +kernel, by decide +kernel⟩, List.mem_of_getElem? (i := 95) (by decide +kernel), List.mem_of_getElem? (i := 855) (by decide +kernel), List.mem_of_getElem? (i := 856) (by decide +kernel)⟩
def lw_privs_3 : List (MethodName × Nat) := [(⟨"PathHouse$Finder", "forget", "()V"⟩, 5), (⟨"PathHouse$QueryReader", "whole", "()LPathHouse$Path;"⟩, 4), (⟨"PathHouse$QueryReader", "readSegments", "(LPathHouse$Path;Z)I"⟩, 4), (⟨"PathHouse$QueryReader", "readSegment", "(LPathHouse$Path;Z)V"⟩, 4), (⟨"PathHouse$QueryReader", "readBrackets", "(LPathHouse$Segment;Z)Z"⟩, 4), (⟨"PathHouse$QueryReader", "readSelector", "(Z)LPathHouse$Selector;"⟩, 4), (⟨"PathHouse$QueryReader", "atString", "()Z"⟩, 4), (⟨"PathHouse$QueryReader", "atInt", "()Z"⟩, 4), (⟨"PathHouse$QueryReader", "readIndexed", "(Z)LPathHouse$Selector;"⟩, 4), (⟨"PathHouse$QueryReader", "readInt", "(Z)J"⟩, 4), (⟨"PathHouse$QueryReader", "note", "(II)V"⟩, 4), (⟨"PathHouse$QueryReader", "readSlice", "(ZJ)LPathHouse$Selector;"⟩, 4), (⟨"PathHouse$QueryReader", "readFilter", "()LPathHouse$Selector;"⟩, 4), (⟨"PathHouse$QueryReader", "enter", "()V"⟩, 4), (⟨"PathHouse$QueryReader", "readOr", "(LPathHouse$Term;)LPathHouse$Term;"⟩, 4), (⟨"PathHouse$QueryReader", "readAnd", "(LPathHouse$Term;)LPathHouse$Term;"⟩, 4)]
theorem lw_r3 : ∀ q ∈ lw_privs_3, lw_okq q := List.forall_mem_cons.mpr ⟨lw_p32, List.forall_mem_cons.mpr ⟨lw_p33, List.forall_mem_cons.mpr ⟨lw_p34, List.forall_mem_cons.mpr ⟨lw_p35, List.forall_mem_cons.mpr ⟨lw_p36, List.forall_mem_cons.mpr ⟨lw_p37, List.forall_mem_cons.mpr ⟨lw_p38, List.forall_mem_cons.mpr ⟨lw_p39, List.forall_mem_cons.mpr ⟨lw_p40, List.forall_mem_cons.mpr ⟨lw_p41, List.forall_mem_cons.mpr ⟨lw_p42, List.forall_mem_cons.mpr ⟨lw_p43, List.forall_mem_cons.mpr ⟨lw_p44, List.forall_mem_cons.mpr ⟨lw_p45, List.forall_mem_cons.mpr ⟨lw_p46, List.forall_mem_cons.mpr ⟨lw_p47, fun _ h => absurd h List.not_mem_nil⟩⟩⟩⟩⟩⟩⟩⟩⟩⟩⟩⟩⟩⟩⟩⟩
theorem lw_p48 : lw_okq (⟨"PathHouse$QueryReader", "readBasic", "()LPathHouse$Term;"⟩, 4) := ⟨⟨by decide +kernel, by decide +kernel⟩, List.mem_of_getElem? (i := 95) (by decide +kernel), List.mem_of_getElem? (i := 859) (by decide +kernel), List.mem_of_getElem? (i := 860) (by decide +kernel)⟩
theorem lw_p49 : lw_okq (⟨"PathHouse$QueryReader", "readGroup", "()LPathHouse$Term;"⟩, 4) := ⟨⟨by decide +kernel, by decide +kernel⟩, List.mem_of_getElem? (i := 95) (by decide +kernel), List.mem_of_getElem? (i := 863) (by decide +kernel), List.mem_of_getElem? (i := 864) (by decide +kernel)⟩
theorem lw_p50 : lw_okq (⟨"PathHouse$QueryReader", "readNegatedTest", "()LPathHouse$Term;"⟩, 4) := ⟨⟨by decide +kernel, by decide +kernel⟩, List.mem_of_getElem? (i := 95) (by decide +kernel), List.mem_of_getElem? (i := 868) (by decide +kernel), List.mem_of_getElem? (i := 869) (by decide +kernel)⟩
theorem lw_p51 : lw_okq (⟨"PathHouse$QueryReader", "readOperand", "(Z)LPathHouse$Term;"⟩, 4) := ⟨⟨by decide +kernel, by decide +kernel⟩, List.mem_of_getElem? (i := 95) (by decide +kernel), List.mem_of_getElem? (i := 872) (by decide +kernel), List.mem_of_getElem? (i := 873) (by decide +kernel)⟩
theorem lw_p52 : lw_okq (⟨"PathHouse$QueryReader", "readWord", "()LPathHouse$Term;"⟩, 4) := ⟨⟨by decide +kernel, by decide +kernel⟩, List.mem_of_getElem? (i := 95) (by decide +kernel), List.mem_of_getElem? (i := 879) (by decide +kernel), List.mem_of_getElem? (i := 880) (by decide +kernel)⟩
theorem lw_p53 : lw_okq (⟨"PathHouse$QueryReader", "readFunction", "(I)LPathHouse$Term;"⟩, 4) := ⟨⟨by decide +kernel, by decide +kernel⟩, List.mem_of_getElem? (i := 95) (by decide +kernel), List.mem_of_getElem? (i := 883) (by decide +kernel), List.mem_of_getElem? (i := 884) (by decide +kernel)⟩
theorem lw_p54 : lw_okq (⟨"PathHouse$QueryReader", "functionNamed", "(I)I"⟩, 4) := ⟨⟨by decide +kernel, by decide +kernel⟩, List.mem_of_getElem? (i := 95) (by decide +kernel), List.mem_of_getElem? (i := 887) (by decide +kernel), List.mem_of_getElem? (i := 888) (by decide +kernel)⟩
theorem lw_p55 : lw_okq (⟨"PathHouse$Reader", "isWord", "(IILjava/lang/String;)Z"⟩, 7) := ⟨⟨by decide +kernel, by decide +kernel⟩, List.mem_of_getElem? (i := 44) (by decide +kernel), List.mem_of_getElem? (i := 892) (by decide +kernel), List.mem_of_getElem? (i := 893) (by decide +kernel)⟩
theorem lw_p56 : lw_okq (⟨"PathHouse$QueryReader", "readArgument", "()LPathHouse$Term;"⟩, 4) := ⟨⟨by decide +kernel, by decide +kernel⟩, List.mem_of_getElem? (i := 95) (by decide +kernel), List.mem_of_getElem? (i := 900) (by decide +kernel), List.mem_of_getElem? (i := 901) (by decide +kernel)⟩
theorem lw_p57 : lw_okq (⟨"PathHouse$QueryReader", "goesOnAsOr", "(LPathHouse$Term;)Z"⟩, 4) := ⟨⟨by decide +kernel, by decide +kernel⟩, List.mem_of_getElem? (i := 95) (by decide +kernel), List.mem_of_getElem? (i := 904) (by decide +kernel), List.mem_of_getElem? (i := 905) (by decide +kernel)⟩
theorem lw_p58 : lw_okq (⟨"PathHouse$Term", "isComparable", "()Z"⟩, 9) := ⟨⟨by decide +kernel, by decide +kernel⟩, List.mem_of_getElem? (i := 808) (by decide +kernel), List.mem_of_getElem? (i := 908) (by decide +kernel), List.mem_of_getElem? (i := 909) (by decide +kernel)⟩
theorem lw_p59 : lw_okq (⟨"PathHouse$Term", "isFunction", "()Z"⟩, 9) := ⟨⟨by decide +kernel, by decide +kernel⟩, List.mem_of_getElem? (i := 808) (by decide +kernel), List.mem_of_getElem? (i := 912) (by decide +kernel), List.mem_of_getElem? (i := 913) (by decide +kernel)⟩
theorem lw_p60 : lw_okq (⟨"PathHouse$QueryReader", "atOperator", "()Z"⟩, 4) := ⟨⟨by decide +kernel, by decide +kernel⟩, List.mem_of_getElem? (i := 95) (by decide +kernel), List.mem_of_getElem? (i := 916) (by decide +kernel), List.mem_of_getElem? (i := 917) (by decide +kernel)⟩
theorem lw_p61 : lw_okq (⟨"PathHouse$Term", "wants", "(LPathHouse$Term;)Z"⟩, 9) := ⟨⟨by decide +kernel, by decide +kernel⟩, List.mem_of_getElem? (i := 808) (by decide +kernel), List.mem_of_getElem? (i := 921) (by decide +kernel), List.mem_of_getElem? (i := 922) (by decide +kernel)⟩
theorem lw_p62 : lw_okq (⟨"PathHouse$QueryReader", "asTest", "(LPathHouse$Term;)LPathHouse$Term;"⟩, 4) := ⟨⟨by decide +kernel, by decide +kernel⟩, List.mem_of_getElem? (i := 95) (by decide +kernel), List.mem_of_getElem? (i := 932) (by decide +kernel), List.mem_of_getElem? (i := 933) (by decide +kernel)⟩
theorem lw_p63 : lw_okq (⟨"PathHouse$QueryReader", "readBasicFrom", "(LPathHouse$Term;)LPathHouse$Term;"⟩, 4) := ⟨⟨by decide +kernel, by decide +kernel⟩, List.mem_of_getElem? (i := 95) (by decide +kernel), List.mem_of_getElem? (i := 937) (by decide +kernel), List.mem_of_getElem? (i := 938) (by decide +kernel)⟩
def lw_privs_4 : List (MethodName × Nat) := [(⟨"PathHouse$QueryReader", "readBasic", "()LPathHouse$Term;"⟩, 4), (⟨"PathHouse$QueryReader", "readGroup", "()LPathHouse$Term;"⟩, 4), (⟨"PathHouse$QueryReader", "readNegatedTest", "()LPathHouse$Term;"⟩, 4), (⟨"PathHouse$QueryReader", "readOperand", "(Z)LPathHouse$Term;"⟩, 4), (⟨"PathHouse$QueryReader", "readWord", "()LPathHouse$Term;"⟩, 4), (⟨"PathHouse$QueryReader", "readFunction", "(I)LPathHouse$Term;"⟩, 4), (⟨"PathHouse$QueryReader", "functionNamed", "(I)I"⟩, 4), (⟨"PathHouse$Reader", "isWord", "(IILjava/lang/String;)Z"⟩, 7), (⟨"PathHouse$QueryReader", "readArgument", "()LPathHouse$Term;"⟩, 4), (⟨"PathHouse$QueryReader", "goesOnAsOr", "(LPathHouse$Term;)Z"⟩, 4), (⟨"PathHouse$Term", "isComparable", "()Z"⟩, 9), (⟨"PathHouse$Term", "isFunction", "()Z"⟩, 9), (⟨"PathHouse$QueryReader", "atOperator", "()Z"⟩, 4), (⟨"PathHouse$Term", "wants", "(LPathHouse$Term;)Z"⟩, 9), (⟨"PathHouse$QueryReader", "asTest", "(LPathHouse$Term;)LPathHouse$Term;"⟩, 4), (⟨"PathHouse$QueryReader", "readBasicFrom", "(LPathHouse$Term;)LPathHouse$Term;"⟩, 4)]
theorem lw_r4 : ∀ q ∈ lw_privs_4, lw_okq q := List.forall_mem_cons.mpr ⟨lw_p48, List.forall_mem_cons.mpr ⟨lw_p49, List.forall_mem_cons.mpr ⟨lw_p50, List.forall_mem_cons.mpr ⟨lw_p51, List.forall_mem_cons.mpr ⟨lw_p52, List.forall_mem_cons.mpr ⟨lw_p53, List.forall_mem_cons.mpr ⟨lw_p54, List.forall_mem_cons.mpr ⟨lw_p55, List.forall_mem_cons.mpr ⟨lw_p56, List.forall_mem_cons.mpr ⟨lw_p57, List.forall_mem_cons.mpr ⟨lw_p58, List.forall_mem_cons.mpr ⟨lw_p59, List.forall_mem_cons.mpr ⟨lw_p60, List.forall_mem_cons.mpr ⟨lw_p61, List.forall_mem_cons.mpr ⟨lw_p62, List.forall_mem_cons.mpr ⟨lw_p63, fun _ h => absurd h List.not_mem_nil⟩⟩⟩⟩⟩⟩⟩⟩⟩⟩⟩⟩⟩⟩⟩⟩
theorem lw_p64 : lw_okq (⟨"PathHouse$QueryReader", "readComparison", "(LPathHouse$Term;)LPathHouse$Term;"⟩, 4) := ⟨⟨by decide +kernel, by decide +kernel⟩, List.mem_of_getElem? (i := 95) (by decide +kernel), List.mem_of_getElem? (i := 941) (by decide +kernel), List.mem_of_getElem? (i := 942) (by decide +kernel)⟩
theorem lw_p65 : lw_okq (⟨"PathHouse$QueryReader", "readOperator", "()I"⟩, 4) := ⟨⟨by decide +kernel, by decide +kernel⟩, List.mem_of_getElem? (i := 95) (by decide +kernel), List.mem_of_getElem? (i := 945) (by decide +kernel), List.mem_of_getElem? (i := 946) (by decide +kernel)⟩
theorem lw_p66 : lw_okq (⟨"PathHouse$QueryReader", "takesTwice", "(I)Z"⟩, 4) := ⟨⟨by decide +kernel, by decide +kernel⟩, List.mem_of_getElem? (i := 95) (by decide +kernel), List.mem_of_getElem? (i := 949) (by decide +kernel), List.mem_of_getElem? (i := 950) (by decide +kernel)⟩
theorem lw_p67 : lw_okq (⟨"PathHouse$Term", "simplest", "()LPathHouse$Term;"⟩, 9) := ⟨⟨by decide +kernel, by decide +kernel⟩, List.mem_of_getElem? (i := 808) (by decide +kernel), List.mem_of_getElem? (i := 953) (by decide +kernel), List.mem_of_getElem? (i := 954) (by decide +kernel)⟩
theorem lw_p68 : lw_okq (⟨"PathHouse$Term", "partCount", "()I"⟩, 9) := ⟨⟨by decide +kernel, by decide +kernel⟩, List.mem_of_getElem? (i := 808) (by decide +kernel), List.mem_of_getElem? (i := 957) (by decide +kernel), List.mem_of_getElem? (i := 958) (by decide +kernel)⟩
theorem lw_p69 : lw_okq (⟨"PathHouse$Term", "part", "(I)LPathHouse$Term;"⟩, 9) := ⟨⟨by decide +kernel, by decide +kernel⟩, List.mem_of_getElem? (i := 808) (by decide +kernel), List.mem_of_getElem? (i := 962) (by decide +kernel), List.mem_of_getElem? (i := 963) (by decide +kernel)⟩
theorem lw_p70 : lw_okq (⟨"PathHouse$Selector", "isSingular", "()Z"⟩, 8) := ⟨⟨by decide +kernel, by decide +kernel⟩, List.mem_of_getElem? (i := 732) (by decide +kernel), List.mem_of_getElem? (i := 968) (by decide +kernel), List.mem_of_getElem? (i := 969) (by decide +kernel)⟩
theorem lw_p71 : lw_okq (⟨"PathHouse$QueryReader", "readDotted", "(LPathHouse$Segment;Z)Z"⟩, 4) := ⟨⟨by decide +kernel, by decide +kernel⟩, List.mem_of_getElem? (i := 95) (by decide +kernel), List.mem_of_getElem? (i := 972) (by decide +kernel), List.mem_of_getElem? (i := 973) (by decide +kernel)⟩
theorem lw_p72 : lw_okq (⟨"PathHouse$Reader", "plainName", "()[I"⟩, 7) := ⟨⟨by decide +kernel, by decide +kernel⟩, List.mem_of_getElem? (i := 44) (by decide +kernel), List.mem_of_getElem? (i := 976) (by decide +kernel), List.mem_of_getElem? (i := 977) (by decide +kernel)⟩
theorem lw_p73 : lw_okq (⟨"PathHouse$Finder", "run", "(LPathHouse$Path;LPathHouse$Node;)I"⟩, 5) := ⟨⟨by decide +kernel, by decide +kernel⟩, List.mem_of_getElem? (i := 114) (by decide +kernel), List.mem_of_getElem? (i := 995) (by decide +kernel), List.mem_of_getElem? (i := 996) (by decide +kernel)⟩
theorem lw_p74 : lw_okq (⟨"PathHouse$Finder", "select", "(LPathHouse$Path;LPathHouse$Node;I)LPathHouse$Row;"⟩, 5) := ⟨⟨by decide +kernel, by decide +kernel⟩, List.mem_of_getElem? (i := 114) (by decide +kernel), List.mem_of_getElem? (i := 1000) (by decide +kernel), List.mem_of_getElem? (i := 1001) (by decide +kernel)⟩
theorem lw_p75 : lw_okq (⟨"PathHouse$Finder", "emptyRow", "(I)LPathHouse$Row;"⟩, 5) := ⟨⟨by decide +kernel, by decide +kernel⟩, List.mem_of_getElem? (i := 114) (by decide +kernel), List.mem_of_getElem? (i := 1004) (by decide +kernel), List.mem_of_getElem? (i := 1005) (by decide +kernel)⟩
theorem lw_p76 : lw_okq (⟨"PathHouse$Finder", "stop", "(I)V"⟩, 5) := ⟨⟨by decide +kernel, by decide +kernel⟩, List.mem_of_getElem? (i := 114) (by decide +kernel), List.mem_of_getElem? (i := 1008) (by decide +kernel), List.mem_of_getElem? (i := 1009) (by decide +kernel)⟩
theorem lw_p77 : lw_okq (⟨"PathHouse$Finder", "put", "(LPathHouse$Node;LPathHouse$Row;)V"⟩, 5) := ⟨⟨by decide +kernel, by decide +kernel⟩, List.mem_of_getElem? (i := 114) (by decide +kernel), List.mem_of_getElem? (i := 1042) (by decide +kernel), List.mem_of_getElem? (i := 1043) (by decide +kernel)⟩
theorem lw_p78 : lw_okq (⟨"PathHouse$Row", "add", "(LPathHouse$Node;)Z"⟩, 2) := ⟨⟨by decide +kernel, by decide +kernel⟩, List.mem_of_getElem? (i := 1026) (by decide +kernel), List.mem_of_getElem? (i := 1046) (by decide +kernel), List.mem_of_getElem? (i := 1047) (by decide +kernel)⟩
theorem lw_p79 : lw_okq (⟨"PathHouse$Row", "get", "(I)LPathHouse$Node;"⟩, 2) := ⟨⟨by decide +kernel, by decide +kernel⟩, List.mem_of_getElem? (i := 1026) (by decide +kernel), List.mem_of_getElem? (i := 1053) (by decide +kernel), List.mem_of_getElem? (i := 1054) (by decide +kernel)⟩
def lw_privs_5 : List (MethodName × Nat) := [(⟨"PathHouse$QueryReader", "readComparison", "(LPathHouse$Term;)LPathHouse$Term;"⟩, 4), (⟨"PathHouse$QueryReader", "readOperator", "()I"⟩, 4), (⟨"PathHouse$QueryReader", "takesTwice", "(I)Z"⟩, 4), (⟨"PathHouse$Term", "simplest", "()LPathHouse$Term;"⟩, 9), (⟨"PathHouse$Term", "partCount", "()I"⟩, 9), (⟨"PathHouse$Term", "part", "(I)LPathHouse$Term;"⟩, 9), (⟨"PathHouse$Selector", "isSingular", "()Z"⟩, 8), (⟨"PathHouse$QueryReader", "readDotted", "(LPathHouse$Segment;Z)Z"⟩, 4), (⟨"PathHouse$Reader", "plainName", "()[I"⟩, 7), (⟨"PathHouse$Finder", "run", "(LPathHouse$Path;LPathHouse$Node;)I"⟩, 5), (⟨"PathHouse$Finder", "select", "(LPathHouse$Path;LPathHouse$Node;I)LPathHouse$Row;"⟩, 5), (⟨"PathHouse$Finder", "emptyRow", "(I)LPathHouse$Row;"⟩, 5), (⟨"PathHouse$Finder", "stop", "(I)V"⟩, 5), (⟨"PathHouse$Finder", "put", "(LPathHouse$Node;LPathHouse$Row;)V"⟩, 5), (⟨"PathHouse$Row", "add", "(LPathHouse$Node;)Z"⟩, 2), (⟨"PathHouse$Row", "get", "(I)LPathHouse$Node;"⟩, 2)]
theorem lw_r5 : ∀ q ∈ lw_privs_5, lw_okq q := List.forall_mem_cons.mpr ⟨lw_p64, List.forall_mem_cons.mpr ⟨lw_p65, List.forall_mem_cons.mpr ⟨lw_p66, List.forall_mem_cons.mpr ⟨lw_p67, List.forall_mem_cons.mpr ⟨lw_p68, List.forall_mem_cons.mpr ⟨lw_p69, List.forall_mem_cons.mpr ⟨lw_p70, List.forall_mem_cons.mpr ⟨lw_p71, List.forall_mem_cons.mpr ⟨lw_p72, List.forall_mem_cons.mpr ⟨lw_p73, List.forall_mem_cons.mpr ⟨lw_p74, List.forall_mem_cons.mpr ⟨lw_p75, List.forall_mem_cons.mpr ⟨lw_p76, List.forall_mem_cons.mpr ⟨lw_p77, List.forall_mem_cons.mpr ⟨lw_p78, List.forall_mem_cons.mpr ⟨lw_p79, fun _ h => absurd h List.not_mem_nil⟩⟩⟩⟩⟩⟩⟩⟩⟩⟩⟩⟩⟩⟩⟩⟩
theorem lw_p80 : lw_okq (⟨"PathHouse$Finder", "walk", "(LPathHouse$Segment;LPathHouse$Node;LPathHouse$Row;I)V"⟩, 5) := ⟨⟨by decide +kernel, by decide +kernel⟩, List.mem_of_getElem? (i := 114) (by decide +kernel), List.mem_of_getElem? (i := 1057) (by decide +kernel), List.mem_of_getElem? (i := 1058) (by decide +kernel)⟩
theorem lw_p81 : lw_okq (⟨"PathHouse$Finder", "ask", "(LPathHouse$Segment;LPathHouse$Node;LPathHouse$Row;I)V"⟩, 5) := ⟨⟨by decide +kernel, by decide +kernel⟩, List.mem_of_getElem? (i := 114) (by decide +kernel), List.mem_of_getElem? (i := 1061) (by decide +kernel), List.mem_of_getElem? (i := 1062) (by decide +kernel)⟩
theorem lw_p82 : lw_okq (⟨"PathHouse$Finder", "look", "()V"⟩, 5) := ⟨⟨by decide +kernel, by decide +kernel⟩, List.mem_of_getElem? (i := 114) (by decide +kernel), List.mem_of_getElem? (i := 1065) (by decide +kernel), List.mem_of_getElem? (i := 1066) (by decide +kernel)⟩
theorem lw_p83 : lw_okq (⟨"PathHouse$Finder", "pick", "(LPathHouse$Selector;LPathHouse$Node;LPathHouse$Row;I)V"⟩, 5) := ⟨⟨by decide +kernel, by decide +kernel⟩, List.mem_of_getElem? (i := 114) (by decide +kernel), List.mem_of_getElem? (i := 1071) (by decide +kernel), List.mem_of_getElem? (i := 1072) (by decide +kernel)⟩
theorem lw_p84 : lw_okq (⟨"PathHouse$Finder", "pickAll", "(LPathHouse$Node;LPathHouse$Row;)V"⟩, 5) := ⟨⟨by decide +kernel, by decide +kernel⟩, List.mem_of_getElem? (i := 114) (by decide +kernel), List.mem_of_getElem? (i := 1076) (by decide +kernel), List.mem_of_getElem? (i := 1077) (by decide +kernel)⟩
theorem lw_p85 : lw_okq (⟨"PathHouse$Node", "kidCount", "()I"⟩, 11) := ⟨⟨by decide +kernel, by decide +kernel⟩, List.mem_of_getElem? (i := 307) (by decide +kernel), List.mem_of_getElem? (i := 1080) (by decide +kernel), List.mem_of_getElem? (i := 1081) (by decide +kernel)⟩
theorem lw_p86 : lw_okq (⟨"PathHouse$Node", "kid", "(J)LPathHouse$Node;"⟩, 11) := ⟨⟨by decide +kernel, by decide +kernel⟩, List.mem_of_getElem? (i := 307) (by decide +kernel), List.mem_of_getElem? (i := 1084) (by decide +kernel), List.mem_of_getElem? (i := 1085) (by decide +kernel)⟩
theorem lw_p87 : lw_okq (⟨"PathHouse$Node", "element", "(J)LPathHouse$Node;"⟩, 11) := ⟨⟨by decide +kernel, by decide +kernel⟩, List.mem_of_getElem? (i := 307) (by decide +kernel), List.mem_of_getElem? (i := 1088) (by decide +kernel), List.mem_of_getElem? (i := 1089) (by decide +kernel)⟩
theorem lw_p88 : lw_okq (⟨"PathHouse$Finder", "pickSlice", "(LPathHouse$Selector;LPathHouse$Node;LPathHouse$Row;)V"⟩, 5) := ⟨⟨by decide +kernel, by decide +kernel⟩, List.mem_of_getElem? (i := 114) (by decide +kernel), List.mem_of_getElem? (i := 1094) (by decide +kernel), List.mem_of_getElem? (i := 1095) (by decide +kernel)⟩
theorem lw_p89 : lw_okq (⟨"PathHouse$Finder", "pickTrue", "(LPathHouse$Term;LPathHouse$Node;LPathHouse$Row;I)V"⟩, 5) := ⟨⟨by decide +kernel, by decide +kernel⟩, List.mem_of_getElem? (i := 114) (by decide +kernel), List.mem_of_getElem? (i := 1106) (by decide +kernel), List.mem_of_getElem? (i := 1107) (by decide +kernel)⟩
theorem lw_p90 : lw_okq (⟨"PathHouse$Finder", "holds", "(LPathHouse$Term;LPathHouse$Node;I)Z"⟩, 5) := ⟨⟨by decide +kernel, by decide +kernel⟩, List.mem_of_getElem? (i := 114) (by decide +kernel), List.mem_of_getElem? (i := 1110) (by decide +kernel), List.mem_of_getElem? (i := 1111) (by decide +kernel)⟩
theorem lw_p91 : lw_okq (⟨"PathHouse$Finder", "valueOf", "(LPathHouse$Term;LPathHouse$Node;I)LPathHouse$Node;"⟩, 5) := ⟨⟨by decide +kernel, by decide +kernel⟩, List.mem_of_getElem? (i := 114) (by decide +kernel), List.mem_of_getElem? (i := 1116) (by decide +kernel), List.mem_of_getElem? (i := 1117) (by decide +kernel)⟩
theorem lw_p92 : lw_okq (⟨"PathHouse$Finder", "onlyOf", "(LPathHouse$Term;LPathHouse$Node;I)LPathHouse$Node;"⟩, 5) := ⟨⟨by decide +kernel, by decide +kernel⟩, List.mem_of_getElem? (i := 114) (by decide +kernel), List.mem_of_getElem? (i := 1120) (by decide +kernel), List.mem_of_getElem? (i := 1121) (by decide +kernel)⟩
theorem lw_p93 : lw_okq (⟨"PathHouse$Node", "size", "()I"⟩, 11) := ⟨⟨by decide +kernel, by decide +kernel⟩, List.mem_of_getElem? (i := 307) (by decide +kernel), List.mem_of_getElem? (i := 1127) (by decide +kernel), List.mem_of_getElem? (i := 1128) (by decide +kernel)⟩
theorem lw_p94 : lw_okq (⟨"PathHouse$Finder", "countOf", "(LPathHouse$Term;LPathHouse$Node;I)I"⟩, 5) := ⟨⟨by decide +kernel, by decide +kernel⟩, List.mem_of_getElem? (i := 114) (by decide +kernel), List.mem_of_getElem? (i := 1134) (by decide +kernel), List.mem_of_getElem? (i := 1135) (by decide +kernel)⟩
theorem lw_p95 : lw_okq (⟨"PathHouse$Finder", "compares", "(ILPathHouse$Node;LPathHouse$Node;)Z"⟩, 5) := ⟨⟨by decide +kernel, by decide +kernel⟩, List.mem_of_getElem? (i := 114) (by decide +kernel), List.mem_of_getElem? (i := 1138) (by decide +kernel), List.mem_of_getElem? (i := 1139) (by decide +kernel)⟩
def lw_privs_6 : List (MethodName × Nat) := [(⟨"PathHouse$Finder", "walk", "(LPathHouse$Segment;LPathHouse$Node;LPathHouse$Row;I)V"⟩, 5), (⟨"PathHouse$Finder", "ask", "(LPathHouse$Segment;LPathHouse$Node;LPathHouse$Row;I)V"⟩, 5), (⟨"PathHouse$Finder", "look", "()V"⟩, 5), (⟨"PathHouse$Finder", "pick", "(LPathHouse$Selector;LPathHouse$Node;LPathHouse$Row;I)V"⟩, 5), (⟨"PathHouse$Finder", "pickAll", "(LPathHouse$Node;LPathHouse$Row;)V"⟩, 5), (⟨"PathHouse$Node", "kidCount", "()I"⟩, 11), (⟨"PathHouse$Node", "kid", "(J)LPathHouse$Node;"⟩, 11), (⟨"PathHouse$Node", "element", "(J)LPathHouse$Node;"⟩, 11), (⟨"PathHouse$Finder", "pickSlice", "(LPathHouse$Selector;LPathHouse$Node;LPathHouse$Row;)V"⟩, 5), (⟨"PathHouse$Finder", "pickTrue", "(LPathHouse$Term;LPathHouse$Node;LPathHouse$Row;I)V"⟩, 5), (⟨"PathHouse$Finder", "holds", "(LPathHouse$Term;LPathHouse$Node;I)Z"⟩, 5), (⟨"PathHouse$Finder", "valueOf", "(LPathHouse$Term;LPathHouse$Node;I)LPathHouse$Node;"⟩, 5), (⟨"PathHouse$Finder", "onlyOf", "(LPathHouse$Term;LPathHouse$Node;I)LPathHouse$Node;"⟩, 5), (⟨"PathHouse$Node", "size", "()I"⟩, 11), (⟨"PathHouse$Finder", "countOf", "(LPathHouse$Term;LPathHouse$Node;I)I"⟩, 5), (⟨"PathHouse$Finder", "compares", "(ILPathHouse$Node;LPathHouse$Node;)Z"⟩, 5)]
theorem lw_r6 : ∀ q ∈ lw_privs_6, lw_okq q := List.forall_mem_cons.mpr ⟨lw_p80, List.forall_mem_cons.mpr ⟨lw_p81, List.forall_mem_cons.mpr ⟨lw_p82, List.forall_mem_cons.mpr ⟨lw_p83, List.forall_mem_cons.mpr ⟨lw_p84, List.forall_mem_cons.mpr ⟨lw_p85, List.forall_mem_cons.mpr ⟨lw_p86, List.forall_mem_cons.mpr ⟨lw_p87, List.forall_mem_cons.mpr ⟨lw_p88, List.forall_mem_cons.mpr ⟨lw_p89, List.forall_mem_cons.mpr ⟨lw_p90, List.forall_mem_cons.mpr ⟨lw_p91, List.forall_mem_cons.mpr ⟨lw_p92, List.forall_mem_cons.mpr ⟨lw_p93, List.forall_mem_cons.mpr ⟨lw_p94, List.forall_mem_cons.mpr ⟨lw_p95, fun _ h => absurd h List.not_mem_nil⟩⟩⟩⟩⟩⟩⟩⟩⟩⟩⟩⟩⟩⟩⟩⟩
theorem lw_p96 : lw_okq (⟨"PathHouse$Finder", "isEqual", "(LPathHouse$Node;LPathHouse$Node;I)Z"⟩, 5) := ⟨⟨by decide +kernel, by decide +kernel⟩, List.mem_of_getElem? (i := 114) (by decide +kernel), List.mem_of_getElem? (i := 1142) (by decide +kernel), List.mem_of_getElem? (i := 1143) (by decide +kernel)⟩
theorem lw_p97 : lw_okq (⟨"PathHouse$Finder", "results", "()I"⟩, 5) := ⟨⟨by decide +kernel, by decide +kernel⟩, List.mem_of_getElem? (i := 114) (by decide +kernel), List.mem_of_getElem? (i := 1154) (by decide +kernel), List.mem_of_getElem? (i := 1155) (by decide +kernel)⟩
theorem lw_p98 : lw_okq (⟨"PathHouse$Finder", "result", "(I)LPathHouse$Node;"⟩, 5) := ⟨⟨by decide +kernel, by decide +kernel⟩, List.mem_of_getElem? (i := 114) (by decide +kernel), List.mem_of_getElem? (i := 1162) (by decide +kernel), List.mem_of_getElem? (i := 1163) (by decide +kernel)⟩
theorem lw_p99 : lw_okq (⟨"PathHouse$Out", "clear", "()V"⟩, 2) := ⟨⟨by decide +kernel, by decide +kernel⟩, List.mem_of_getElem? (i := 139) (by decide +kernel), List.mem_of_getElem? (i := 1175) (by decide +kernel), List.mem_of_getElem? (i := 1176) (by decide +kernel)⟩
theorem lw_p100 : lw_okq (⟨"PathHouse$Out", "putSteps", "(LPathHouse$Node;I)V"⟩, 2) := ⟨⟨by decide +kernel, by decide +kernel⟩, List.mem_of_getElem? (i := 139) (by decide +kernel), List.mem_of_getElem? (i := 1179) (by decide +kernel), List.mem_of_getElem? (i := 1180) (by decide +kernel)⟩
theorem lw_p101 : lw_okq (⟨"PathHouse$Out", "put", "(I)V"⟩, 2) := ⟨⟨by decide +kernel, by decide +kernel⟩, List.mem_of_getElem? (i := 139) (by decide +kernel), List.mem_of_getElem? (i := 1183) (by decide +kernel), List.mem_of_getElem? (i := 1184) (by decide +kernel)⟩
theorem lw_p102 : lw_okq (⟨"PathHouse$Out", "putQuoted", "([II)V"⟩, 2) := ⟨⟨by decide +kernel, by decide +kernel⟩, List.mem_of_getElem? (i := 139) (by decide +kernel), List.mem_of_getElem? (i := 1188) (by decide +kernel), List.mem_of_getElem? (i := 1189) (by decide +kernel)⟩
theorem lw_p103 : lw_okq (⟨"PathHouse$Out", "putControl", "(I)V"⟩, 2) := ⟨⟨by decide +kernel, by decide +kernel⟩, List.mem_of_getElem? (i := 139) (by decide +kernel), List.mem_of_getElem? (i := 1192) (by decide +kernel), List.mem_of_getElem? (i := 1193) (by decide +kernel)⟩
theorem lw_p104 : lw_okq (⟨"PathHouse$Out", "putWord", "(Ljava/lang/String;)V"⟩, 2) := ⟨⟨by decide +kernel, by decide +kernel⟩, List.mem_of_getElem? (i := 139) (by decide +kernel), List.mem_of_getElem? (i := 1197) (by decide +kernel), List.mem_of_getElem? (i := 1198) (by decide +kernel)⟩
theorem lw_p105 : lw_okq (⟨"PathHouse$Out", "putCode", "(I)V"⟩, 2) := ⟨⟨by decide +kernel, by decide +kernel⟩, List.mem_of_getElem? (i := 139) (by decide +kernel), List.mem_of_getElem? (i := 1203) (by decide +kernel), List.mem_of_getElem? (i := 1204) (by decide +kernel)⟩
theorem lw_p106 : lw_okq (⟨"PathHouse$Out", "putWhole", "(J)V"⟩, 2) := ⟨⟨by decide +kernel, by decide +kernel⟩, List.mem_of_getElem? (i := 139) (by decide +kernel), List.mem_of_getElem? (i := 1208) (by decide +kernel), List.mem_of_getElem? (i := 1209) (by decide +kernel)⟩
theorem lw_p107 : lw_okq (⟨"PathHouse$Out", "putValue", "(LPathHouse$Node;I)V"⟩, 2) := ⟨⟨by decide +kernel, by decide +kernel⟩, List.mem_of_getElem? (i := 139) (by decide +kernel), List.mem_of_getElem? (i := 1221) (by decide +kernel), List.mem_of_getElem? (i := 1222) (by decide +kernel)⟩
theorem lw_p108 : lw_okq (⟨"PathHouse$Out", "putKids", "(LPathHouse$Node;I)V"⟩, 2) := ⟨⟨by decide +kernel, by decide +kernel⟩, List.mem_of_getElem? (i := 139) (by decide +kernel), List.mem_of_getElem? (i := 1228) (by decide +kernel), List.mem_of_getElem? (i := 1229) (by decide +kernel)⟩
theorem lw_p109 : lw_okq (⟨"PathHouse$Node", "deepest", "()I"⟩, 11) := ⟨⟨by decide +kernel, by decide +kernel⟩, List.mem_of_getElem? (i := 307) (by decide +kernel), List.mem_of_getElem? (i := 1239) (by decide +kernel), List.mem_of_getElem? (i := 1240) (by decide +kernel)⟩
theorem lw_p110 : lw_okq (⟨"PathHouse$Out", "has", "(I)Z"⟩, 2) := ⟨⟨by decide +kernel, by decide +kernel⟩, List.mem_of_getElem? (i := 139) (by decide +kernel), List.mem_of_getElem? (i := 1254) (by decide +kernel), List.mem_of_getElem? (i := 1255) (by decide +kernel)⟩
theorem lw_p111 : lw_okq (⟨"PathHouse$Out", "get", "(I)I"⟩, 2) := ⟨⟨by decide +kernel, by decide +kernel⟩, List.mem_of_getElem? (i := 139) (by decide +kernel), List.mem_of_getElem? (i := 1274) (by decide +kernel), List.mem_of_getElem? (i := 1275) (by decide +kernel)⟩
def lw_privs_7 : List (MethodName × Nat) := [(⟨"PathHouse$Finder", "isEqual", "(LPathHouse$Node;LPathHouse$Node;I)Z"⟩, 5), (⟨"PathHouse$Finder", "results", "()I"⟩, 5), (⟨"PathHouse$Finder", "result", "(I)LPathHouse$Node;"⟩, 5), (⟨"PathHouse$Out", "clear", "()V"⟩, 2), (⟨"PathHouse$Out", "putSteps", "(LPathHouse$Node;I)V"⟩, 2), (⟨"PathHouse$Out", "put", "(I)V"⟩, 2), (⟨"PathHouse$Out", "putQuoted", "([II)V"⟩, 2), (⟨"PathHouse$Out", "putControl", "(I)V"⟩, 2), (⟨"PathHouse$Out", "putWord", "(Ljava/lang/String;)V"⟩, 2), (⟨"PathHouse$Out", "putCode", "(I)V"⟩, 2), (⟨"PathHouse$Out", "putWhole", "(J)V"⟩, 2), (⟨"PathHouse$Out", "putValue", "(LPathHouse$Node;I)V"⟩, 2), (⟨"PathHouse$Out", "putKids", "(LPathHouse$Node;I)V"⟩, 2), (⟨"PathHouse$Node", "deepest", "()I"⟩, 11), (⟨"PathHouse$Out", "has", "(I)Z"⟩, 2), (⟨"PathHouse$Out", "get", "(I)I"⟩, 2)]
theorem lw_r7 : ∀ q ∈ lw_privs_7, lw_okq q := List.forall_mem_cons.mpr ⟨lw_p96, List.forall_mem_cons.mpr ⟨lw_p97, List.forall_mem_cons.mpr ⟨lw_p98, List.forall_mem_cons.mpr ⟨lw_p99, List.forall_mem_cons.mpr ⟨lw_p100, List.forall_mem_cons.mpr ⟨lw_p101, List.forall_mem_cons.mpr ⟨lw_p102, List.forall_mem_cons.mpr ⟨lw_p103, List.forall_mem_cons.mpr ⟨lw_p104, List.forall_mem_cons.mpr ⟨lw_p105, List.forall_mem_cons.mpr ⟨lw_p106, List.forall_mem_cons.mpr ⟨lw_p107, List.forall_mem_cons.mpr ⟨lw_p108, List.forall_mem_cons.mpr ⟨lw_p109, List.forall_mem_cons.mpr ⟨lw_p110, List.forall_mem_cons.mpr ⟨lw_p111, fun _ h => absurd h List.not_mem_nil⟩⟩⟩⟩⟩⟩⟩⟩⟩⟩⟩⟩⟩⟩⟩⟩
theorem lw_p112 : lw_okq (⟨"PathHouseModel", "blanks", "()V"⟩, 37) := ⟨⟨by decide +kernel, by decide +kernel⟩, List.mem_of_getElem? (i := 1279) (by decide +kernel), List.mem_of_getElem? (i := 1552) (by decide +kernel), List.mem_of_getElem? (i := 1553) (by decide +kernel)⟩
theorem lw_p113 : lw_okq (⟨"PathHouseModel", "is", "(I)Z"⟩, 37) := ⟨⟨by decide +kernel, by decide +kernel⟩, List.mem_of_getElem? (i := 1279) (by decide +kernel), List.mem_of_getElem? (i := 1556) (by decide +kernel), List.mem_of_getElem? (i := 1557) (by decide +kernel)⟩
theorem lw_p114 : lw_okq (⟨"PathHouseModel", "peek", "()I"⟩, 37) := ⟨⟨by decide +kernel, by decide +kernel⟩, List.mem_of_getElem? (i := 1279) (by decide +kernel), List.mem_of_getElem? (i := 1560) (by decide +kernel), List.mem_of_getElem? (i := 1561) (by decide +kernel)⟩
theorem lw_p115 : lw_okq (⟨"PathHouseModel", "byteAt", "(I)I"⟩, 37) := ⟨⟨by decide +kernel, by decide +kernel⟩, List.mem_of_getElem? (i := 1279) (by decide +kernel), List.mem_of_getElem? (i := 1564) (by decide +kernel), List.mem_of_getElem? (i := 1565) (by decide +kernel)⟩
theorem lw_p116 : lw_okq (⟨"PathHouseModel", "value", "(II)I"⟩, 37) := ⟨⟨by decide +kernel, by decide +kernel⟩, List.mem_of_getElem? (i := 1279) (by decide +kernel), List.mem_of_getElem? (i := 1568) (by decide +kernel), List.mem_of_getElem? (i := 1569) (by decide +kernel)⟩
theorem lw_p117 : lw_okq (⟨"PathHouseModel", "bad", "()LPathHouseModel$Stop;"⟩, 37) := ⟨⟨by decide +kernel, by decide +kernel⟩, List.mem_of_getElem? (i := 1279) (by decide +kernel), List.mem_of_getElem? (i := 1578) (by decide +kernel), List.mem_of_getElem? (i := 1579) (by decide +kernel)⟩
theorem lw_p118 : lw_okq (⟨"PathHouseModel", "stop", "(II)LPathHouseModel$Stop;"⟩, 37) := ⟨⟨by decide +kernel, by decide +kernel⟩, List.mem_of_getElem? (i := 1279) (by decide +kernel), List.mem_of_getElem? (i := 1582) (by decide +kernel), List.mem_of_getElem? (i := 1583) (by decide +kernel)⟩
theorem lw_p119 : lw_okq (⟨"PathHouseModel", "word", "(Ljava/lang/String;)V"⟩, 37) := ⟨⟨by decide +kernel, by decide +kernel⟩, List.mem_of_getElem? (i := 1279) (by decide +kernel), List.mem_of_getElem? (i := 1588) (by decide +kernel), List.mem_of_getElem? (i := 1589) (by decide +kernel)⟩
theorem lw_p120 : lw_okq (⟨"PathHouseModel", "need", "(I)V"⟩, 37) := ⟨⟨by decide +kernel, by decide +kernel⟩, List.mem_of_getElem? (i := 1279) (by decide +kernel), List.mem_of_getElem? (i := 1594) (by decide +kernel), List.mem_of_getElem? (i := 1595) (by decide +kernel)⟩
theorem lw_p121 : lw_okq (⟨"PathHouseModel", "string", "()I"⟩, 37) := ⟨⟨by decide +kernel, by decide +kernel⟩, List.mem_of_getElem? (i := 1279) (by decide +kernel), List.mem_of_getElem? (i := 1600) (by decide +kernel), List.mem_of_getElem? (i := 1601) (by decide +kernel)⟩
theorem lw_p122 : lw_okq (⟨"PathHouseModel", "escaped", "(I)I"⟩, 37) := ⟨⟨by decide +kernel, by decide +kernel⟩, List.mem_of_getElem? (i := 1279) (by decide +kernel), List.mem_of_getElem? (i := 1604) (by decide +kernel), List.mem_of_getElem? (i := 1605) (by decide +kernel)⟩
theorem lw_p123 : lw_okq (⟨"PathHouseModel", "unit", "()I"⟩, 37) := ⟨⟨by decide +kernel, by decide +kernel⟩, List.mem_of_getElem? (i := 1279) (by decide +kernel), List.mem_of_getElem? (i := 1608) (by decide +kernel), List.mem_of_getElem? (i := 1609) (by decide +kernel)⟩
theorem lw_p124 : lw_okq (⟨"PathHouseModel", "hexDigit", "(II)I"⟩, 37) := ⟨⟨by decide +kernel, by decide +kernel⟩, List.mem_of_getElem? (i := 1279) (by decide +kernel), List.mem_of_getElem? (i := 1612) (by decide +kernel), List.mem_of_getElem? (i := 1613) (by decide +kernel)⟩
theorem lw_p125 : lw_okq (⟨"PathHouseModel", "keep", "(I)V"⟩, 37) := ⟨⟨by decide +kernel, by decide +kernel⟩, List.mem_of_getElem? (i := 1279) (by decide +kernel), List.mem_of_getElem? (i := 1623) (by decide +kernel), List.mem_of_getElem? (i := 1624) (by decide +kernel)⟩
theorem lw_p126 : lw_okq (⟨"PathHouseModel", "character", "()I"⟩, 37) := ⟨⟨by decide +kernel, by decide +kernel⟩, List.mem_of_getElem? (i := 1279) (by decide +kernel), List.mem_of_getElem? (i := 1627) (by decide +kernel), List.mem_of_getElem? (i := 1628) (by decide +kernel)⟩
theorem lw_p127 : lw_okq (⟨"PathHouseModel", "array", "(II)V"⟩, 37) := ⟨⟨by decide +kernel, by decide +kernel⟩, List.mem_of_getElem? (i := 1279) (by decide +kernel), List.mem_of_getElem? (i := 1633) (by decide +kernel), List.mem_of_getElem? (i := 1634) (by decide +kernel)⟩
def lw_privs_8 : List (MethodName × Nat) := [(⟨"PathHouseModel", "blanks", "()V"⟩, 37), (⟨"PathHouseModel", "is", "(I)Z"⟩, 37), (⟨"PathHouseModel", "peek", "()I"⟩, 37), (⟨"PathHouseModel", "byteAt", "(I)I"⟩, 37), (⟨"PathHouseModel", "value", "(II)I"⟩, 37), (⟨"PathHouseModel", "bad", "()LPathHouseModel$Stop;"⟩, 37), (⟨"PathHouseModel", "stop", "(II)LPathHouseModel$Stop;"⟩, 37), (⟨"PathHouseModel", "word", "(Ljava/lang/String;)V"⟩, 37), (⟨"PathHouseModel", "need", "(I)V"⟩, 37), (⟨"PathHouseModel", "string", "()I"⟩, 37), (⟨"PathHouseModel", "escaped", "(I)I"⟩, 37), (⟨"PathHouseModel", "unit", "()I"⟩, 37), (⟨"PathHouseModel", "hexDigit", "(II)I"⟩, 37), (⟨"PathHouseModel", "keep", "(I)V"⟩, 37), (⟨"PathHouseModel", "character", "()I"⟩, 37), (⟨"PathHouseModel", "array", "(II)V"⟩, 37)]
theorem lw_r8 : ∀ q ∈ lw_privs_8, lw_okq q := List.forall_mem_cons.mpr ⟨lw_p112, List.forall_mem_cons.mpr ⟨lw_p113, List.forall_mem_cons.mpr ⟨lw_p114, List.forall_mem_cons.mpr ⟨lw_p115, List.forall_mem_cons.mpr ⟨lw_p116, List.forall_mem_cons.mpr ⟨lw_p117, List.forall_mem_cons.mpr ⟨lw_p118, List.forall_mem_cons.mpr ⟨lw_p119, List.forall_mem_cons.mpr ⟨lw_p120, List.forall_mem_cons.mpr ⟨lw_p121, List.forall_mem_cons.mpr ⟨lw_p122, List.forall_mem_cons.mpr ⟨lw_p123, List.forall_mem_cons.mpr ⟨lw_p124, List.forall_mem_cons.mpr ⟨lw_p125, List.forall_mem_cons.mpr ⟨lw_p126, List.forall_mem_cons.mpr ⟨lw_p127, fun _ h => absurd h List.not_mem_nil⟩⟩⟩⟩⟩⟩⟩⟩⟩⟩⟩⟩⟩⟩⟩⟩
theorem lw_p128 : lw_okq (⟨"PathHouseModel", "hang", "(II)V"⟩, 37) := ⟨⟨by decide +kernel, by decide +kernel⟩, List.mem_of_getElem? (i := 1279) (by decide +kernel), List.mem_of_getElem? (i := 1637) (by decide +kernel), List.mem_of_getElem? (i := 1638) (by decide +kernel)⟩
theorem lw_p129 : lw_okq (⟨"PathHouseModel", "object", "(II)V"⟩, 37) := ⟨⟨by decide +kernel, by decide +kernel⟩, List.mem_of_getElem? (i := 1279) (by decide +kernel), List.mem_of_getElem? (i := 1641) (by decide +kernel), List.mem_of_getElem? (i := 1642) (by decide +kernel)⟩
theorem lw_p130 : lw_okq (⟨"PathHouseModel", "areSame", "(IIII)Z"⟩, 37) := ⟨⟨by decide +kernel, by decide +kernel⟩, List.mem_of_getElem? (i := 1279) (by decide +kernel), List.mem_of_getElem? (i := 1645) (by decide +kernel), List.mem_of_getElem? (i := 1646) (by decide +kernel)⟩
theorem lw_p131 : lw_okq (⟨"PathHouseModel", "integer", "(Z)V"⟩, 37) := ⟨⟨by decide +kernel, by decide +kernel⟩, List.mem_of_getElem? (i := 1279) (by decide +kernel), List.mem_of_getElem? (i := 1649) (by decide +kernel), List.mem_of_getElem? (i := 1650) (by decide +kernel)⟩
theorem lw_p132 : lw_okq (⟨"PathHouseModel", "told", "(II)I"⟩, 37) := ⟨⟨by decide +kernel, by decide +kernel⟩, List.mem_of_getElem? (i := 1279) (by decide +kernel), List.mem_of_getElem? (i := 1656) (by decide +kernel), List.mem_of_getElem? (i := 1657) (by decide +kernel)⟩
theorem lw_p133 : lw_okq (⟨"PathHouseModel", "segments", "(ZZ)I"⟩, 37) := ⟨⟨by decide +kernel, by decide +kernel⟩, List.mem_of_getElem? (i := 1279) (by decide +kernel), List.mem_of_getElem? (i := 1668) (by decide +kernel), List.mem_of_getElem? (i := 1669) (by decide +kernel)⟩
theorem lw_p134 : lw_okq (⟨"PathHouseModel", "part", "(I)I"⟩, 37) := ⟨⟨by decide +kernel, by decide +kernel⟩, List.mem_of_getElem? (i := 1279) (by decide +kernel), List.mem_of_getElem? (i := 1672) (by decide +kernel), List.mem_of_getElem? (i := 1673) (by decide +kernel)⟩
theorem lw_p135 : lw_okq (⟨"PathHouseModel", "bracketed", "(Z)I"⟩, 37) := ⟨⟨by decide +kernel, by decide +kernel⟩, List.mem_of_getElem? (i := 1279) (by decide +kernel), List.mem_of_getElem? (i := 1676) (by decide +kernel), List.mem_of_getElem? (i := 1677) (by decide +kernel)⟩
theorem lw_p136 : lw_okq (⟨"PathHouseModel", "selector", "(Z)I"⟩, 37) := ⟨⟨by decide +kernel, by decide +kernel⟩, List.mem_of_getElem? (i := 1279) (by decide +kernel), List.mem_of_getElem? (i := 1680) (by decide +kernel), List.mem_of_getElem? (i := 1681) (by decide +kernel)⟩
theorem lw_p137 : lw_okq (⟨"PathHouseModel", "name", "(I)I"⟩, 37) := ⟨⟨by decide +kernel, by decide +kernel⟩, List.mem_of_getElem? (i := 1279) (by decide +kernel), List.mem_of_getElem? (i := 1684) (by decide +kernel), List.mem_of_getElem? (i := 1685) (by decide +kernel)⟩
theorem lw_p138 : lw_okq (⟨"PathHouseModel", "isInteger", "()Z"⟩, 37) := ⟨⟨by decide +kernel, by decide +kernel⟩, List.mem_of_getElem? (i := 1279) (by decide +kernel), List.mem_of_getElem? (i := 1688) (by decide +kernel), List.mem_of_getElem? (i := 1689) (by decide +kernel)⟩
theorem lw_p139 : lw_okq (⟨"PathHouseModel", "selected", "()J"⟩, 37) := ⟨⟨by decide +kernel, by decide +kernel⟩, List.mem_of_getElem? (i := 1279) (by decide +kernel), List.mem_of_getElem? (i := 1692) (by decide +kernel), List.mem_of_getElem? (i := 1693) (by decide +kernel)⟩
theorem lw_p140 : lw_okq (⟨"PathHouseModel", "late", "(II)V"⟩, 37) := ⟨⟨by decide +kernel, by decide +kernel⟩, List.mem_of_getElem? (i := 1279) (by decide +kernel), List.mem_of_getElem? (i := 1696) (by decide +kernel), List.mem_of_getElem? (i := 1697) (by decide +kernel)⟩
theorem lw_p141 : lw_okq (⟨"PathHouseModel", "slice", "(I)I"⟩, 37) := ⟨⟨by decide +kernel, by decide +kernel⟩, List.mem_of_getElem? (i := 1279) (by decide +kernel), List.mem_of_getElem? (i := 1700) (by decide +kernel), List.mem_of_getElem? (i := 1701) (by decide +kernel)⟩
theorem lw_p142 : lw_okq (⟨"PathHouseModel", "opens", "()V"⟩, 37) := ⟨⟨by decide +kernel, by decide +kernel⟩, List.mem_of_getElem? (i := 1279) (by decide +kernel), List.mem_of_getElem? (i := 1704) (by decide +kernel), List.mem_of_getElem? (i := 1705) (by decide +kernel)⟩
theorem lw_p143 : lw_okq (⟨"PathHouseModel", "any", "(I)I"⟩, 37) := ⟨⟨by decide +kernel, by decide +kernel⟩, List.mem_of_getElem? (i := 1279) (by decide +kernel), List.mem_of_getElem? (i := 1708) (by decide +kernel), List.mem_of_getElem? (i := 1709) (by decide +kernel)⟩
def lw_privs_9 : List (MethodName × Nat) := [(⟨"PathHouseModel", "hang", "(II)V"⟩, 37), (⟨"PathHouseModel", "object", "(II)V"⟩, 37), (⟨"PathHouseModel", "areSame", "(IIII)Z"⟩, 37), (⟨"PathHouseModel", "integer", "(Z)V"⟩, 37), (⟨"PathHouseModel", "told", "(II)I"⟩, 37), (⟨"PathHouseModel", "segments", "(ZZ)I"⟩, 37), (⟨"PathHouseModel", "part", "(I)I"⟩, 37), (⟨"PathHouseModel", "bracketed", "(Z)I"⟩, 37), (⟨"PathHouseModel", "selector", "(Z)I"⟩, 37), (⟨"PathHouseModel", "name", "(I)I"⟩, 37), (⟨"PathHouseModel", "isInteger", "()Z"⟩, 37), (⟨"PathHouseModel", "selected", "()J"⟩, 37), (⟨"PathHouseModel", "late", "(II)V"⟩, 37), (⟨"PathHouseModel", "slice", "(I)I"⟩, 37), (⟨"PathHouseModel", "opens", "()V"⟩, 37), (⟨"PathHouseModel", "any", "(I)I"⟩, 37)]
theorem lw_r9 : ∀ q ∈ lw_privs_9, lw_okq q := List.forall_mem_cons.mpr ⟨lw_p128, List.forall_mem_cons.mpr ⟨lw_p129, List.forall_mem_cons.mpr ⟨lw_p130, List.forall_mem_cons.mpr ⟨lw_p131, List.forall_mem_cons.mpr ⟨lw_p132, List.forall_mem_cons.mpr ⟨lw_p133, List.forall_mem_cons.mpr ⟨lw_p134, List.forall_mem_cons.mpr ⟨lw_p135, List.forall_mem_cons.mpr ⟨lw_p136, List.forall_mem_cons.mpr ⟨lw_p137, List.forall_mem_cons.mpr ⟨lw_p138, List.forall_mem_cons.mpr ⟨lw_p139, List.forall_mem_cons.mpr ⟨lw_p140, List.forall_mem_cons.mpr ⟨lw_p141, List.forall_mem_cons.mpr ⟨lw_p142, List.forall_mem_cons.mpr ⟨lw_p143, fun _ h => absurd h List.not_mem_nil⟩⟩⟩⟩⟩⟩⟩⟩⟩⟩⟩⟩⟩⟩⟩⟩
theorem lw_p144 : lw_okq (⟨"PathHouseModel", "all", "(I)I"⟩, 37) := ⟨⟨by decide +kernel, by decide +kernel⟩, List.mem_of_getElem? (i := 1279) (by decide +kernel), List.mem_of_getElem? (i := 1712) (by decide +kernel), List.mem_of_getElem? (i := 1713) (by decide +kernel)⟩
theorem lw_p145 : lw_okq (⟨"PathHouseModel", "basic", "()I"⟩, 37) := ⟨⟨by decide +kernel, by decide +kernel⟩, List.mem_of_getElem? (i := 1279) (by decide +kernel), List.mem_of_getElem? (i := 1716) (by decide +kernel), List.mem_of_getElem? (i := 1717) (by decide +kernel)⟩
theorem lw_p146 : lw_okq (⟨"PathHouseModel", "bracket", "()I"⟩, 37) := ⟨⟨by decide +kernel, by decide +kernel⟩, List.mem_of_getElem? (i := 1279) (by decide +kernel), List.mem_of_getElem? (i := 1720) (by decide +kernel), List.mem_of_getElem? (i := 1721) (by decide +kernel)⟩
theorem lw_p147 : lw_okq (⟨"PathHouseModel", "isPath", "()Z"⟩, 37) := ⟨⟨by decide +kernel, by decide +kernel⟩, List.mem_of_getElem? (i := 1279) (by decide +kernel), List.mem_of_getElem? (i := 1724) (by decide +kernel), List.mem_of_getElem? (i := 1725) (by decide +kernel)⟩
theorem lw_p148 : lw_okq (⟨"PathHouseModel", "path", "(Z)I"⟩, 37) := ⟨⟨by decide +kernel, by decide +kernel⟩, List.mem_of_getElem? (i := 1279) (by decide +kernel), List.mem_of_getElem? (i := 1728) (by decide +kernel), List.mem_of_getElem? (i := 1729) (by decide +kernel)⟩
theorem lw_p149 : lw_okq (⟨"PathHouseModel", "tested", "(II)I"⟩, 37) := ⟨⟨by decide +kernel, by decide +kernel⟩, List.mem_of_getElem? (i := 1279) (by decide +kernel), List.mem_of_getElem? (i := 1732) (by decide +kernel), List.mem_of_getElem? (i := 1733) (by decide +kernel)⟩
theorem lw_p150 : lw_okq (⟨"PathHouseModel", "negated", "(I)I"⟩, 37) := ⟨⟨by decide +kernel, by decide +kernel⟩, List.mem_of_getElem? (i := 1279) (by decide +kernel), List.mem_of_getElem? (i := 1739) (by decide +kernel), List.mem_of_getElem? (i := 1740) (by decide +kernel)⟩
theorem lw_p151 : lw_okq (⟨"PathHouseModel", "function", "(I)I"⟩, 37) := ⟨⟨by decide +kernel, by decide +kernel⟩, List.mem_of_getElem? (i := 1279) (by decide +kernel), List.mem_of_getElem? (i := 1743) (by decide +kernel), List.mem_of_getElem? (i := 1744) (by decide +kernel)⟩
theorem lw_p152 : lw_okq (⟨"PathHouseModel", "isWord", "(ILjava/lang/String;)Z"⟩, 37) := ⟨⟨by decide +kernel, by decide +kernel⟩, List.mem_of_getElem? (i := 1279) (by decide +kernel), List.mem_of_getElem? (i := 1748) (by decide +kernel), List.mem_of_getElem? (i := 1749) (by decide +kernel)⟩
theorem lw_p153 : lw_okq (⟨"PathHouseModel", "argument", "()I"⟩, 37) := ⟨⟨by decide +kernel, by decide +kernel⟩, List.mem_of_getElem? (i := 1279) (by decide +kernel), List.mem_of_getElem? (i := 1754) (by decide +kernel), List.mem_of_getElem? (i := 1755) (by decide +kernel)⟩
theorem lw_p154 : lw_okq (⟨"PathHouseModel", "operand", "()I"⟩, 37) := ⟨⟨by decide +kernel, by decide +kernel⟩, List.mem_of_getElem? (i := 1279) (by decide +kernel), List.mem_of_getElem? (i := 1758) (by decide +kernel), List.mem_of_getElem? (i := 1759) (by decide +kernel)⟩
theorem lw_p155 : lw_okq (⟨"PathHouseModel", "isLiteral", "()Z"⟩, 37) := ⟨⟨by decide +kernel, by decide +kernel⟩, List.mem_of_getElem? (i := 1279) (by decide +kernel), List.mem_of_getElem? (i := 1762) (by decide +kernel), List.mem_of_getElem? (i := 1763) (by decide +kernel)⟩
theorem lw_p156 : lw_okq (⟨"PathHouseModel", "literal", "()I"⟩, 37) := ⟨⟨by decide +kernel, by decide +kernel⟩, List.mem_of_getElem? (i := 1279) (by decide +kernel), List.mem_of_getElem? (i := 1766) (by decide +kernel), List.mem_of_getElem? (i := 1767) (by decide +kernel)⟩
theorem lw_p157 : lw_okq (⟨"PathHouseModel", "worded", "()I"⟩, 37) := ⟨⟨by decide +kernel, by decide +kernel⟩, List.mem_of_getElem? (i := 1279) (by decide +kernel), List.mem_of_getElem? (i := 1770) (by decide +kernel), List.mem_of_getElem? (i := 1771) (by decide +kernel)⟩
theorem lw_p158 : lw_okq (⟨"PathHouseModel", "isOrdered", "()Z"⟩, 37) := ⟨⟨by decide +kernel, by decide +kernel⟩, List.mem_of_getElem? (i := 1279) (by decide +kernel), List.mem_of_getElem? (i := 1774) (by decide +kernel), List.mem_of_getElem? (i := 1775) (by decide +kernel)⟩
theorem lw_p159 : lw_okq (⟨"PathHouseModel", "compared", "(I)I"⟩, 37) := ⟨⟨by decide +kernel, by decide +kernel⟩, List.mem_of_getElem? (i := 1279) (by decide +kernel), List.mem_of_getElem? (i := 1778) (by decide +kernel), List.mem_of_getElem? (i := 1779) (by decide +kernel)⟩
def lw_privs_10 : List (MethodName × Nat) := [(⟨"PathHouseModel", "all", "(I)I"⟩, 37), (⟨"PathHouseModel", "basic", "()I"⟩, 37), (⟨"PathHouseModel", "bracket", "()I"⟩, 37), (⟨"PathHouseModel", "isPath", "()Z"⟩, 37), (⟨"PathHouseModel", "path", "(Z)I"⟩, 37), (⟨"PathHouseModel", "tested", "(II)I"⟩, 37), (⟨"PathHouseModel", "negated", "(I)I"⟩, 37), (⟨"PathHouseModel", "function", "(I)I"⟩, 37), (⟨"PathHouseModel", "isWord", "(ILjava/lang/String;)Z"⟩, 37), (⟨"PathHouseModel", "argument", "()I"⟩, 37), (⟨"PathHouseModel", "operand", "()I"⟩, 37), (⟨"PathHouseModel", "isLiteral", "()Z"⟩, 37), (⟨"PathHouseModel", "literal", "()I"⟩, 37), (⟨"PathHouseModel", "worded", "()I"⟩, 37), (⟨"PathHouseModel", "isOrdered", "()Z"⟩, 37), (⟨"PathHouseModel", "compared", "(I)I"⟩, 37)]
theorem lw_r10 : ∀ q ∈ lw_privs_10, lw_okq q := List.forall_mem_cons.mpr ⟨lw_p144, List.forall_mem_cons.mpr ⟨lw_p145, List.forall_mem_cons.mpr ⟨lw_p146, List.forall_mem_cons.mpr ⟨lw_p147, List.forall_mem_cons.mpr ⟨lw_p148, List.forall_mem_cons.mpr ⟨lw_p149, List.forall_mem_cons.mpr ⟨lw_p150, List.forall_mem_cons.mpr ⟨lw_p151, List.forall_mem_cons.mpr ⟨lw_p152, List.forall_mem_cons.mpr ⟨lw_p153, List.forall_mem_cons.mpr ⟨lw_p154, List.forall_mem_cons.mpr ⟨lw_p155, List.forall_mem_cons.mpr ⟨lw_p156, List.forall_mem_cons.mpr ⟨lw_p157, List.forall_mem_cons.mpr ⟨lw_p158, List.forall_mem_cons.mpr ⟨lw_p159, fun _ h => absurd h List.not_mem_nil⟩⟩⟩⟩⟩⟩⟩⟩⟩⟩⟩⟩⟩⟩⟩⟩
theorem lw_p160 : lw_okq (⟨"PathHouseModel", "sign", "()I"⟩, 37) := ⟨⟨by decide +kernel, by decide +kernel⟩, List.mem_of_getElem? (i := 1279) (by decide +kernel), List.mem_of_getElem? (i := 1782) (by decide +kernel), List.mem_of_getElem? (i := 1783) (by decide +kernel)⟩
theorem lw_p161 : lw_okq (⟨"PathHouseModel", "comparable", "()I"⟩, 37) := ⟨⟨by decide +kernel, by decide +kernel⟩, List.mem_of_getElem? (i := 1279) (by decide +kernel), List.mem_of_getElem? (i := 1786) (by decide +kernel), List.mem_of_getElem? (i := 1787) (by decide +kernel)⟩
theorem lw_p162 : lw_okq (⟨"PathHouseModel", "basicOf", "(II)I"⟩, 37) := ⟨⟨by decide +kernel, by decide +kernel⟩, List.mem_of_getElem? (i := 1279) (by decide +kernel), List.mem_of_getElem? (i := 1790) (by decide +kernel), List.mem_of_getElem? (i := 1791) (by decide +kernel)⟩
theorem lw_p163 : lw_okq (⟨"PathHouseModel", "member", "()I"⟩, 37) := ⟨⟨by decide +kernel, by decide +kernel⟩, List.mem_of_getElem? (i := 1279) (by decide +kernel), List.mem_of_getElem? (i := 1794) (by decide +kernel), List.mem_of_getElem? (i := 1795) (by decide +kernel)⟩
theorem lw_p164 : lw_okq (⟨"PathHouseModel", "isLetter", "(I)Z"⟩, 37) := ⟨⟨by decide +kernel, by decide +kernel⟩, List.mem_of_getElem? (i := 1279) (by decide +kernel), List.mem_of_getElem? (i := 1798) (by decide +kernel), List.mem_of_getElem? (i := 1799) (by decide +kernel)⟩
theorem lw_p165 : lw_okq (⟨"PathHouseModel", "nodes", "(III)I"⟩, 37) := ⟨⟨by decide +kernel, by decide +kernel⟩, List.mem_of_getElem? (i := 1279) (by decide +kernel), List.mem_of_getElem? (i := 1806) (by decide +kernel), List.mem_of_getElem? (i := 1807) (by decide +kernel)⟩
theorem lw_p166 : lw_okq (⟨"PathHouseModel", "down", "(III)V"⟩, 37) := ⟨⟨by decide +kernel, by decide +kernel⟩, List.mem_of_getElem? (i := 1279) (by decide +kernel), List.mem_of_getElem? (i := 1810) (by decide +kernel), List.mem_of_getElem? (i := 1811) (by decide +kernel)⟩
theorem lw_p167 : lw_okq (⟨"PathHouseModel", "look", "()V"⟩, 37) := ⟨⟨by decide +kernel, by decide +kernel⟩, List.mem_of_getElem? (i := 1279) (by decide +kernel), List.mem_of_getElem? (i := 1814) (by decide +kernel), List.mem_of_getElem? (i := 1815) (by decide +kernel)⟩
theorem lw_p168 : lw_okq (⟨"PathHouseModel", "asked", "(III)V"⟩, 37) := ⟨⟨by decide +kernel, by decide +kernel⟩, List.mem_of_getElem? (i := 1279) (by decide +kernel), List.mem_of_getElem? (i := 1819) (by decide +kernel), List.mem_of_getElem? (i := 1820) (by decide +kernel)⟩
theorem lw_p169 : lw_okq (⟨"PathHouseModel", "named", "(III)I"⟩, 37) := ⟨⟨by decide +kernel, by decide +kernel⟩, List.mem_of_getElem? (i := 1279) (by decide +kernel), List.mem_of_getElem? (i := 1823) (by decide +kernel), List.mem_of_getElem? (i := 1824) (by decide +kernel)⟩
theorem lw_p170 : lw_okq (⟨"PathHouseModel", "comes", "(I)V"⟩, 37) := ⟨⟨by decide +kernel, by decide +kernel⟩, List.mem_of_getElem? (i := 1279) (by decide +kernel), List.mem_of_getElem? (i := 1827) (by decide +kernel), List.mem_of_getElem? (i := 1828) (by decide +kernel)⟩
theorem lw_p171 : lw_okq (⟨"PathHouseModel", "element", "(II)I"⟩, 37) := ⟨⟨by decide +kernel, by decide +kernel⟩, List.mem_of_getElem? (i := 1279) (by decide +kernel), List.mem_of_getElem? (i := 1831) (by decide +kernel), List.mem_of_getElem? (i := 1832) (by decide +kernel)⟩
theorem lw_p172 : lw_okq (⟨"PathHouseModel", "sliced", "(II)V"⟩, 37) := ⟨⟨by decide +kernel, by decide +kernel⟩, List.mem_of_getElem? (i := 1279) (by decide +kernel), List.mem_of_getElem? (i := 1835) (by decide +kernel), List.mem_of_getElem? (i := 1836) (by decide +kernel)⟩
theorem lw_p173 : lw_okq (⟨"PathHouseModel", "filtered", "(III)V"⟩, 37) := ⟨⟨by decide +kernel, by decide +kernel⟩, List.mem_of_getElem? (i := 1279) (by decide +kernel), List.mem_of_getElem? (i := 1843) (by decide +kernel), List.mem_of_getElem? (i := 1844) (by decide +kernel)⟩
theorem lw_p174 : lw_okq (⟨"PathHouseModel", "isTrue", "(III)Z"⟩, 37) := ⟨⟨by decide +kernel, by decide +kernel⟩, List.mem_of_getElem? (i := 1279) (by decide +kernel), List.mem_of_getElem? (i := 1847) (by decide +kernel), List.mem_of_getElem? (i := 1848) (by decide +kernel)⟩
theorem lw_p175 : lw_okq (⟨"PathHouseModel", "pathOf", "(III)I"⟩, 37) := ⟨⟨by decide +kernel, by decide +kernel⟩, List.mem_of_getElem? (i := 1279) (by decide +kernel), List.mem_of_getElem? (i := 1851) (by decide +kernel), List.mem_of_getElem? (i := 1852) (by decide +kernel)⟩
def lw_privs_11 : List (MethodName × Nat) := [(⟨"PathHouseModel", "sign", "()I"⟩, 37), (⟨"PathHouseModel", "comparable", "()I"⟩, 37), (⟨"PathHouseModel", "basicOf", "(II)I"⟩, 37), (⟨"PathHouseModel", "member", "()I"⟩, 37), (⟨"PathHouseModel", "isLetter", "(I)Z"⟩, 37), (⟨"PathHouseModel", "nodes", "(III)I"⟩, 37), (⟨"PathHouseModel", "down", "(III)V"⟩, 37), (⟨"PathHouseModel", "look", "()V"⟩, 37), (⟨"PathHouseModel", "asked", "(III)V"⟩, 37), (⟨"PathHouseModel", "named", "(III)I"⟩, 37), (⟨"PathHouseModel", "comes", "(I)V"⟩, 37), (⟨"PathHouseModel", "element", "(II)I"⟩, 37), (⟨"PathHouseModel", "sliced", "(II)V"⟩, 37), (⟨"PathHouseModel", "filtered", "(III)V"⟩, 37), (⟨"PathHouseModel", "isTrue", "(III)Z"⟩, 37), (⟨"PathHouseModel", "pathOf", "(III)I"⟩, 37)]
theorem lw_r11 : ∀ q ∈ lw_privs_11, lw_okq q := List.forall_mem_cons.mpr ⟨lw_p160, List.forall_mem_cons.mpr ⟨lw_p161, List.forall_mem_cons.mpr ⟨lw_p162, List.forall_mem_cons.mpr ⟨lw_p163, List.forall_mem_cons.mpr ⟨lw_p164, List.forall_mem_cons.mpr ⟨lw_p165, List.forall_mem_cons.mpr ⟨lw_p166, List.forall_mem_cons.mpr ⟨lw_p167, List.forall_mem_cons.mpr ⟨lw_p168, List.forall_mem_cons.mpr ⟨lw_p169, List.forall_mem_cons.mpr ⟨lw_p170, List.forall_mem_cons.mpr ⟨lw_p171, List.forall_mem_cons.mpr ⟨lw_p172, List.forall_mem_cons.mpr ⟨lw_p173, List.forall_mem_cons.mpr ⟨lw_p174, List.forall_mem_cons.mpr ⟨lw_p175, fun _ h => absurd h List.not_mem_nil⟩⟩⟩⟩⟩⟩⟩⟩⟩⟩⟩⟩⟩⟩⟩⟩
theorem lw_p176 : lw_okq (⟨"PathHouseModel", "compares", "(III)Z"⟩, 37) := ⟨⟨by decide +kernel, by decide +kernel⟩, List.mem_of_getElem? (i := 1279) (by decide +kernel), List.mem_of_getElem? (i := 1855) (by decide +kernel), List.mem_of_getElem? (i := 1856) (by decide +kernel)⟩
theorem lw_p177 : lw_okq (⟨"PathHouseModel", "comesTo", "(III)V"⟩, 37) := ⟨⟨by decide +kernel, by decide +kernel⟩, List.mem_of_getElem? (i := 1279) (by decide +kernel), List.mem_of_getElem? (i := 1859) (by decide +kernel), List.mem_of_getElem? (i := 1860) (by decide +kernel)⟩
theorem lw_p178 : lw_okq (⟨"PathHouseModel", "ofNumber", "(J)V"⟩, 37) := ⟨⟨by decide +kernel, by decide +kernel⟩, List.mem_of_getElem? (i := 1279) (by decide +kernel), List.mem_of_getElem? (i := 1863) (by decide +kernel), List.mem_of_getElem? (i := 1864) (by decide +kernel)⟩
theorem lw_p179 : lw_okq (⟨"PathHouseModel", "ofValue", "(I)V"⟩, 37) := ⟨⟨by decide +kernel, by decide +kernel⟩, List.mem_of_getElem? (i := 1279) (by decide +kernel), List.mem_of_getElem? (i := 1867) (by decide +kernel), List.mem_of_getElem? (i := 1868) (by decide +kernel)⟩
theorem lw_p180 : lw_okq (⟨"PathHouseModel", "alike", "(IJIIIIJIII)Z"⟩, 37) := ⟨⟨by decide +kernel, by decide +kernel⟩, List.mem_of_getElem? (i := 1279) (by decide +kernel), List.mem_of_getElem? (i := 1871) (by decide +kernel), List.mem_of_getElem? (i := 1872) (by decide +kernel)⟩
theorem lw_p181 : lw_okq (⟨"PathHouseModel", "areAlike", "(II)Z"⟩, 37) := ⟨⟨by decide +kernel, by decide +kernel⟩, List.mem_of_getElem? (i := 1279) (by decide +kernel), List.mem_of_getElem? (i := 1875) (by decide +kernel), List.mem_of_getElem? (i := 1876) (by decide +kernel)⟩
theorem lw_p182 : lw_okq (⟨"PathHouseModel", "areSameValues", "(II)Z"⟩, 37) := ⟨⟨by decide +kernel, by decide +kernel⟩, List.mem_of_getElem? (i := 1279) (by decide +kernel), List.mem_of_getElem? (i := 1879) (by decide +kernel), List.mem_of_getElem? (i := 1880) (by decide +kernel)⟩
theorem lw_p183 : lw_okq (⟨"PathHouseModel", "isLess", "(IJIIIJII)Z"⟩, 37) := ⟨⟨by decide +kernel, by decide +kernel⟩, List.mem_of_getElem? (i := 1279) (by decide +kernel), List.mem_of_getElem? (i := 1883) (by decide +kernel), List.mem_of_getElem? (i := 1884) (by decide +kernel)⟩
theorem lw_p184 : lw_okq (⟨"PathHouseModel", "isFound", "(I)Z"⟩, 37) := ⟨⟨by decide +kernel, by decide +kernel⟩, List.mem_of_getElem? (i := 1279) (by decide +kernel), List.mem_of_getElem? (i := 1891) (by decide +kernel), List.mem_of_getElem? (i := 1892) (by decide +kernel)⟩
theorem lw_p185 : lw_okq (⟨"PathHouseModel", "steps", "(I)I"⟩, 37) := ⟨⟨by decide +kernel, by decide +kernel⟩, List.mem_of_getElem? (i := 1279) (by decide +kernel), List.mem_of_getElem? (i := 1895) (by decide +kernel), List.mem_of_getElem? (i := 1896) (by decide +kernel)⟩
theorem lw_p186 : lw_okq (⟨"PathHouseModel", "put", "(I)V"⟩, 37) := ⟨⟨by decide +kernel, by decide +kernel⟩, List.mem_of_getElem? (i := 1279) (by decide +kernel), List.mem_of_getElem? (i := 1907) (by decide +kernel), List.mem_of_getElem? (i := 1908) (by decide +kernel)⟩
theorem lw_p187 : lw_okq (⟨"PathHouseModel", "sayNumber", "(J)V"⟩, 37) := ⟨⟨by decide +kernel, by decide +kernel⟩, List.mem_of_getElem? (i := 1279) (by decide +kernel), List.mem_of_getElem? (i := 1911) (by decide +kernel), List.mem_of_getElem? (i := 1912) (by decide +kernel)⟩
theorem lw_p188 : lw_okq (⟨"PathHouseModel", "sayText", "(III)V"⟩, 37) := ⟨⟨by decide +kernel, by decide +kernel⟩, List.mem_of_getElem? (i := 1279) (by decide +kernel), List.mem_of_getElem? (i := 1916) (by decide +kernel), List.mem_of_getElem? (i := 1917) (by decide +kernel)⟩
theorem lw_p189 : lw_okq (⟨"PathHouseModel", "sayCharacter", "(II)V"⟩, 37) := ⟨⟨by decide +kernel, by decide +kernel⟩, List.mem_of_getElem? (i := 1279) (by decide +kernel), List.mem_of_getElem? (i := 1920) (by decide +kernel), List.mem_of_getElem? (i := 1921) (by decide +kernel)⟩
theorem lw_p190 : lw_okq (⟨"PathHouseModel", "sayValue", "(I)V"⟩, 37) := ⟨⟨by decide +kernel, by decide +kernel⟩, List.mem_of_getElem? (i := 1279) (by decide +kernel), List.mem_of_getElem? (i := 1928) (by decide +kernel), List.mem_of_getElem? (i := 1929) (by decide +kernel)⟩
theorem lw_p191 : lw_okq (⟨"PathHouseModel", "say", "(Ljava/lang/String;)V"⟩, 37) := ⟨⟨by decide +kernel, by decide +kernel⟩, List.mem_of_getElem? (i := 1279) (by decide +kernel), List.mem_of_getElem? (i := 1932) (by decide +kernel), List.mem_of_getElem? (i := 1933) (by decide +kernel)⟩
def lw_privs_12 : List (MethodName × Nat) := [(⟨"PathHouseModel", "compares", "(III)Z"⟩, 37), (⟨"PathHouseModel", "comesTo", "(III)V"⟩, 37), (⟨"PathHouseModel", "ofNumber", "(J)V"⟩, 37), (⟨"PathHouseModel", "ofValue", "(I)V"⟩, 37), (⟨"PathHouseModel", "alike", "(IJIIIIJIII)Z"⟩, 37), (⟨"PathHouseModel", "areAlike", "(II)Z"⟩, 37), (⟨"PathHouseModel", "areSameValues", "(II)Z"⟩, 37), (⟨"PathHouseModel", "isLess", "(IJIIIJII)Z"⟩, 37), (⟨"PathHouseModel", "isFound", "(I)Z"⟩, 37), (⟨"PathHouseModel", "steps", "(I)I"⟩, 37), (⟨"PathHouseModel", "put", "(I)V"⟩, 37), (⟨"PathHouseModel", "sayNumber", "(J)V"⟩, 37), (⟨"PathHouseModel", "sayText", "(III)V"⟩, 37), (⟨"PathHouseModel", "sayCharacter", "(II)V"⟩, 37), (⟨"PathHouseModel", "sayValue", "(I)V"⟩, 37), (⟨"PathHouseModel", "say", "(Ljava/lang/String;)V"⟩, 37)]
theorem lw_r12 : ∀ q ∈ lw_privs_12, lw_okq q := List.forall_mem_cons.mpr ⟨lw_p176, List.forall_mem_cons.mpr ⟨lw_p177, List.forall_mem_cons.mpr ⟨lw_p178, List.forall_mem_cons.mpr ⟨lw_p179, List.forall_mem_cons.mpr ⟨lw_p180, List.forall_mem_cons.mpr ⟨lw_p181, List.forall_mem_cons.mpr ⟨lw_p182, List.forall_mem_cons.mpr ⟨lw_p183, List.forall_mem_cons.mpr ⟨lw_p184, List.forall_mem_cons.mpr ⟨lw_p185, List.forall_mem_cons.mpr ⟨lw_p186, List.forall_mem_cons.mpr ⟨lw_p187, List.forall_mem_cons.mpr ⟨lw_p188, List.forall_mem_cons.mpr ⟨lw_p189, List.forall_mem_cons.mpr ⟨lw_p190, List.forall_mem_cons.mpr ⟨lw_p191, fun _ h => absurd h List.not_mem_nil⟩⟩⟩⟩⟩⟩⟩⟩⟩⟩⟩⟩⟩⟩⟩⟩
def lw_privs : List (MethodName × Nat) := lw_privs_1 ++ (lw_privs_2 ++ (lw_privs_3 ++ (lw_privs_4 ++ (lw_privs_5 ++ (lw_privs_6 ++ (lw_privs_7 ++ (lw_privs_8 ++ (lw_privs_9 ++ (lw_privs_10 ++ (lw_privs_11 ++ (lw_privs_12)))))))))))
def lw_tbl : List Cond := k2_sels lw_privs ++ tables_1
theorem lw_privs_ok : ∀ q ∈ lw_privs, lw_okq q := by
  show ∀ q ∈ lw_privs_1 ++ (lw_privs_2 ++ (lw_privs_3 ++ (lw_privs_4 ++ (lw_privs_5 ++ (lw_privs_6 ++ (lw_privs_7 ++ (lw_privs_8 ++ (lw_privs_9 ++ (lw_privs_10 ++ (lw_privs_11 ++ (lw_privs_12))))))))))), lw_okq q
  exact List.forall_mem_append.mpr ⟨lw_r1, List.forall_mem_append.mpr ⟨lw_r2, List.forall_mem_append.mpr ⟨lw_r3, List.forall_mem_append.mpr ⟨lw_r4, List.forall_mem_append.mpr ⟨lw_r5, List.forall_mem_append.mpr ⟨lw_r6, List.forall_mem_append.mpr ⟨lw_r7, List.forall_mem_append.mpr ⟨lw_r8, List.forall_mem_append.mpr ⟨lw_r9, List.forall_mem_append.mpr ⟨lw_r10, List.forall_mem_append.mpr ⟨lw_r11, lw_r12⟩⟩⟩⟩⟩⟩⟩⟩⟩⟩⟩
-- ===== end of PART A; then your names; then what follows =====
/-! THE CLAIM OUT OF ONE WALK OF THE LAW'S BODY. Your part is whole_start (and what it stands on); all else here is the same for every law, but numbers. -/
end
section
/-! ===== BEGIN words of one list among another's, by their places ===== -/
theorem goodIn_r {big : List Cond} (ws : List Cond) (ps : List Nat) (hp : ws = ps.filterMap (fun i => big[i]?)) (h : ws.all goodWord = true) : GoodIn big ws := by
  intro w hw
  have h1 := List.all_eq_true.mp h w hw
  rw [hp] at hw
  obtain ⟨i, -, hi⟩ := List.mem_filterMap.mp hw
  have hm : w ∈ big := by first | exact List.mem_of_getElem? hi | exact List.getElem?_mem hi
  exact ⟨hm, good_of_word h1⟩
theorem goodIn_app {big a b : List Cond} (ha : GoodIn big a) (hb : GoodIn big b) : GoodIn big (a ++ b) := fun w h => (List.mem_append.mp h).elim (ha w) (hb w)
theorem goodIn_ca {big a b : List Cond} {c : Cond} (ha : GoodIn big (c :: a)) (hb : GoodIn big b) : GoodIn big (c :: (a ++ b)) := fun w h => (List.mem_cons.mp h).elim (fun e => ha w (List.mem_cons.mpr (Or.inl e))) (fun h => (List.mem_append.mp h).elim (fun h => ha w (List.mem_cons.mpr (Or.inr h))) (hb w))
theorem goodIn_sub {big ws : List Cond} (hm : ∀ w ∈ ws, w ∈ big) (h : ws.all goodWord = true) : GoodIn big ws := fun w hw => ⟨hm w hw, good_of_word (List.all_eq_true.mp h w hw)⟩
/-! ===== END ===== -/

/-! ===== BEGIN exceptions that leave a method, and their catching by the caller (launches without stack traces) ===== -/
section VXA
/-! The laws vx_back, vx_callV, vx_callS, vx_callSW, vx_throw0, vx_throwS follow proofs of the library, with one case more: JvmDerived/Free/Laws.lean (Back.of_free), Shelf42/LK1.lean (callV, callS), Shelf/KitTraced.lean (throwNew0V, throwNewS). -/
def vx_T (XC : String → State → State → Prop) (st : State) (q : Addr) (t : State) (mc ms : Nat) (free : Addr → Prop) : Prop :=
  ∃ (E : String) (ce : Cell) (L : List Loc), XC E st t ∧ t.heap[q]? = some ce ∧ ce.vm = .none ∧ st.vm.findClass E = some ce.cls ∧ st.WarmedH t.vm ∧ st.sameButNew ({ t with vm := st.vm } : State) L mc ms ∧ ∀ z ∈ L, free z.base
def vx_Q (Qc : Array Value → State → Outcome → State → Prop) (XC : String → State → State → Prop) (mc ms : Nat) (free : Addr → Prop) : Array Value → State → Outcome → State → Prop := fun a st o t =>
  (Qc a st o t ∧ ∃ L, FrameEnd st o t L mc ms ∧ ∀ q ∈ L, free q.base) ∨ ∃ q, o = .threw q ∧ vx_T XC st q t mc ms free
def vx_Met (l : Launch) (y : MethodName) (ws : List Cond) (rm : Room) (Pc : Array Value → State → Prop) (Qc : Array Value → State → Outcome → State → Prop) (XC : String → State → State → Prop) (mc ms : Nat) (free : Addr → Prop) : Prop :=
  MetFree l y (headSpec ws rm) Pc (fun _ _ _ _ _ => True) (vx_Q Qc XC mc ms free)
def vx_Post (XC : String → State → State → Prop) (mc ms : Nat) (free : Addr → Prop) : Pt → Array Value → Addr → Pt → Prop := fun A a q B =>
  ∃ (g : JFrame) (mk : MethodId) (t : State) (L : List Loc) (E : String) (ce : Cell), B.U.heap = t.heap ∧ B.U.vm = t.vm ∧ XC E (A.U.calling g mk a) t ∧ t.heap[q]? = some ce ∧ ce.vm = .none ∧ A.U.vm.findClass E = some ce.cls ∧ B.locs = A.locs ++ L ∧ (∀ z ∈ L, free z.base) ∧ B.cells = A.cells + mc ∧ B.slots = A.slots + ms
def vx_Back (l : Launch) (R : Room) (p : Program) (e : Env) (below : List Frame) (s : State) (sargs : Array Value) (y : MethodName) (len W9 : Nat)
    (Pre : Pt → Array Value → Prop) (Post : Pt → Array Value → Option Value → Pt → Prop) (PostX : Pt → Array Value → Addr → Pt → Prop) : Prop :=
  ∀ (m : MethodId) (meth : Method) (c : Code) (A : Pt) (g : JFrame) (ig : Instr) (mk : MethodId) (a : Array Value),
    Stand p l e R s m sargs below meth c A.U A.locs A.cells A.slots → g.method = m → g.locals.size = c.maxLocals → decode c.code g.pc = .ok (ig, len) →
    2 * g.monitorRoom + (g.stack.map fun v => v.category).sum ≤ W9 → A.U.methodNamed? y = some mk → Pre A a →
    (∃ (v : Option Value) (B : Pt), Stand p l e R s m sargs below meth c B.U B.locs B.cells B.slots ∧ Post A a v B ∧
      Steps p.tables e below (doInvoke e (A.U.setTop g) [] mk a).1 (B.U.setTop { g with pc := g.pc + len, stack := v.toList ++ g.stack })) ∨
    (∃ (q : Addr) (B : Pt), Stand p l e R s m sargs below meth c B.U B.locs B.cells B.slots ∧ PostX A a q B ∧
      Steps p.tables e below (doInvoke e (A.U.setTop g) [] mk a).1 ((B.U.setTop g).pushFrame (.throwing q)))
section Payer
variable {l : Launch} {R : Room} {p : Program} {e : Env} {below : List Frame} {s : State} {sargs : Array Value} {y : MethodName} {len W9 : Nat}
theorem vx_back {ws : List Cond} {rm : Room} {Pc : Array Value → State → Prop} {Qc : Array Value → State → Outcome → State → Prop} {XC : String → State → State → Prop} {mc ms : Nat} {free : Addr → Prop} {bytes : ByteArray} {maxL : Nat} {ret : Option FieldType}
    (hM : vx_Met l y ws rm Pc Qc XC mc ms free) (hblind : FrameBlind Pc) (hrc : rm.cells = mc) (hrs : rm.slots = ms)
    (hframes : rm.frames + 1 ≤ R.frames) (hlocals : W9 + (maxL + 11) + rm.locals ≤ R.locals)
    (hws : ∀ w ∈ ws, ∀ a' U, s.WarmedH U.vm → w.before a' U = true) (hcode : Cond.code y bytes maxL ret ∈ ws) (hinit : ∀ a' U, s.WarmedH U.vm → (Cond.initialized y.cls).before a' U = true) :
    vx_Back l R p e below s sargs y len W9 (PreOf R mc ms Pc) (PostOf Qc mc ms free) (vx_Post XC mc ms free) := by
  intro m meth c A g ig mk a X hg hsize hdg hW hn hp
  have h1 : (headSpec ws rm).pre.before a A.U = true := atoms_intro fun w hw => hws w hw _ _ X.warmed
  have h2 : (Cond.code y bytes maxL ret).before a A.U = true := hws _ hcode _ _ X.warmed
  have h3 : (Cond.initialized y.cls).before a A.U = true := hinit _ _ X.warmed
  have h4 : A.cells + (headSpec ws rm).room.cells ≤ R.cells := by rw [show (headSpec ws rm).room.cells = mc from hrc]; exact hp.1
  have h5 : A.slots + (headSpec ws rm).room.slots ≤ R.slots := by rw [show (headSpec ws rm).room.slots = ms from hrs]; exact hp.2.1
  have hPc : Pc a (A.U.calling g mk a) := hblind _ _ _ _ hp.2.2
  obtain ⟨U, Ls, c0, s0⟩ := A
  dsimp only [Pt.U, Pt.locs, Pt.cells, Pt.slots] at h1 h2 h3 h4 h5 X hn hPc ⊢
  obtain ⟨methY, cY, hmY, hcY, -, hlY, -, -, -, -⟩ := Cond.code_spec hn h2
  obtain ⟨kY, hkY, -⟩ := className_of_methodNamed hn
  have hinitY : kY.init = .initialized := Cond.initialized_spec (findClass_of_methodNamed hn) hkY h3
  have h : At U g.method c below := by rw [hg]; exact X.here
  have hlocals9 : W9 + (maxL + 11) + (headSpec ws rm).room.locals ≤ R.locals := hlocals
  have happ : (headSpec ws rm).appliesLoose y e.platform (U.calling g mk a) = true :=
    Spec.appliesLoose_calling (g := g) h hdg hn hkY hinitY
      (X.room_calling (g := g) (R' := (headSpec ws rm).room) hsize hmY hcY hframes (by rw [hlY]; omega) h4 h5) h1
  obtain ⟨mid, hmid⟩ := h.above
  have hfr : (U.setTop g).frames = (.java g :: mid) ++ below := by rw [State.frames_setTop' g h.top, hmid]; rfl
  obtain ⟨o, s₂, hsteps, -, hend, hq⟩ := Steps.callFree hM p X.admits X.cas X.clock (acts := []) hfr happ hPc trivial
  have hq' : vx_Q Qc XC mc ms free a (U.calling g mk a) o s₂ := hq
  rw [State.frames_setTop' g h.top] at hend
  obtain ⟨g₀, hg0⟩ := Option.isSome_iff_exists.mp h.top
  obtain ⟨r, hr⟩ := State.topJava?_eq_some.mp hg0
  have hr' : (({ U with heap := s₂.heap, slotsUsed := s₂.slotsUsed } : State).setVm s₂.vm).frames = .java g₀ :: r := hr
  rcases hq' with ⟨hqc, L, hfe, hL⟩ | ⟨q, rfl, E, ce, L, hx, hce, hcv, hcl, hW₂, hsm, hL⟩
  · obtain ⟨⟨v, rfl⟩, hW₂, e2, q2, q3, q4, q5, q6⟩ := id hfe
    have e3 : s₂ = ({ (U.calling g mk a).setFrames s₂.frames with heap := s₂.heap, slotsUsed := s₂.slotsUsed } : State).setVm s₂.vm := by
      have : s₂ = ({ s₂ with vm := (U.calling g mk a).vm } : State).setVm s₂.vm := rfl
      rw [e2] at this
      exact this
    obtain ⟨c₂, i₂, len₂, hc₂, hd₂, hf₂⟩ := hend
    have hW' : U.WarmedH s₂.vm := hW₂
    have hcc : c₂ = c := by
      have h1 : s₂.code? g.method = U.code? g.method := by
        rw [State.code?_eq, State.code?_eq, hW'.alike.method?]
      exact Option.some.inj (hc₂.symm.trans (h1.trans h.code))
    subst hcc
    have hlen : len₂ = len := by rw [hdg] at hd₂; cases hd₂; rfl
    subst hlen
    have hs₂ : s₂ = (({ U with heap := s₂.heap, slotsUsed := s₂.slotsUsed } : State).setVm s₂.vm).setTop { g with pc := g.pc + len₂, stack := v.toList ++ g.stack } := by
      refine e3.trans ?_
      rw [hf₂, State.calling_eq h.top, State.setFrames_setFrames, State.setTop_of_frames _ hr', hr]
      rfl
    have hsame : U.sameButNew ({ U with heap := s₂.heap, slotsUsed := s₂.slotsUsed } : State) L mc ms := by
      refine ⟨?_, q2, q3, q4, q5, q6⟩
      obtain ⟨t, ht, -⟩ := State.frames_cons hr
      show ({ U with heap := s₂.heap, slotsUsed := s₂.slotsUsed } : State) = { U.setFrames U.frames with heap := s₂.heap, slotsUsed := s₂.slotsUsed }
      rw [State.setFrames_self ht]
    subst hg
    refine Or.inl ⟨v, ⟨(({ U with heap := s₂.heap, slotsUsed := s₂.slotsUsed } : State).setVm s₂.vm), Ls ++ L, c0 + mc, s0 + ms⟩,
      ⟨X.admits, X.cas, X.clock, X.frames, X.room, X.hears, X.method, X.code, (X.here.setHeapUsed s₂.heap s₂.slotsUsed).setVm hW'.alike, X.tail, State.WarmedH.trans X.warmed hW', X.limits, X.bytes, X.same.trans (hsame.setVm s.vm)⟩,
      ⟨g, mk, s₂, L, rfl, rfl, hqc, rfl, hL, rfl, rfl⟩, ?_⟩
    show Steps p.tables e below _ ((({ U with heap := s₂.heap, slotsUsed := s₂.slotsUsed } : State).setVm s₂.vm).setTop { g with pc := g.pc + len₂, stack := v.toList ++ g.stack })
    rw [← hs₂]
    exact hsteps
  · obtain ⟨e2, q2, q3, q4, q5, q6⟩ := id hsm
    have e3 : s₂ = ({ (U.calling g mk a).setFrames s₂.frames with heap := s₂.heap, slotsUsed := s₂.slotsUsed } : State).setVm s₂.vm := by
      have : s₂ = ({ s₂ with vm := (U.calling g mk a).vm } : State).setVm s₂.vm := rfl
      rw [e2] at this
      exact this
    have hf₂ : s₂.frames = .throwing q :: .java g :: U.frames.tail := hend
    have hW' : U.WarmedH s₂.vm := hW₂
    have hs₂ : s₂ = ((({ U with heap := s₂.heap, slotsUsed := s₂.slotsUsed } : State).setVm s₂.vm).setTop g).pushFrame (.throwing q) := by
      refine e3.trans ?_
      rw [hf₂, State.calling_eq h.top, State.setFrames_setFrames, State.pushFrame, State.frames_setTop _ hr', State.setTop_of_frames _ hr', State.setFrames_setFrames, hr]
      rfl
    have hsame : U.sameButNew ({ U with heap := s₂.heap, slotsUsed := s₂.slotsUsed } : State) L mc ms := by
      refine ⟨?_, q2, q3, q4, q5, q6⟩
      obtain ⟨t, ht, -⟩ := State.frames_cons hr
      show ({ U with heap := s₂.heap, slotsUsed := s₂.slotsUsed } : State) = { U.setFrames U.frames with heap := s₂.heap, slotsUsed := s₂.slotsUsed }
      rw [State.setFrames_self ht]
    subst hg
    refine Or.inr ⟨q, ⟨(({ U with heap := s₂.heap, slotsUsed := s₂.slotsUsed } : State).setVm s₂.vm), Ls ++ L, c0 + mc, s0 + ms⟩,
      ⟨X.admits, X.cas, X.clock, X.frames, X.room, X.hears, X.method, X.code, (X.here.setHeapUsed s₂.heap s₂.slotsUsed).setVm hW'.alike, X.tail, State.WarmedH.trans X.warmed hW', X.limits, X.bytes, X.same.trans (hsame.setVm s.vm)⟩,
      ⟨g, mk, s₂, L, E, ce, rfl, rfl, hx, hce, hcv, hcl, rfl, hL, rfl, rfl⟩, ?_⟩
    show Steps p.tables e below _ (((({ U with heap := s₂.heap, slotsUsed := s₂.slotsUsed } : State).setVm s₂.vm).setTop g).pushFrame (.throwing q))
    rw [← hs₂]
    exact hsteps
end Payer
section Calls
variable {p : Program} {l : Launch} {e : Env} {R : Room} {s : State} {m : MethodId} {args : Array Value} {below : List Frame} {meth : Method} {c : Code} {T : State} {locs : List Loc} {cells slots : Nat}
theorem vx_callV (X : Stand p l e R s m args below meth c T locs cells slots) (hexec : p.tables.exec = Jvm.exec) {own C : String} {index : Nat} {y : MethodName} {bytes : ByteArray} {maxL : Nat} {ret : Option FieldType}
    (hown : s.vm.findClass own = some m.cls) (hlink : (Cond.methodLink own index y).before args s = true) (hinst : (Cond.instanceMethod y).before args s = true) (hsel : (Cond.selects C y y).before args s = true)
    (hcode : (Cond.code y bytes maxL ret).before args s = true) (hy : y.cls ≠ "java/lang/invoke/MethodHandle" ∧ y.cls ≠ "java/lang/invoke/VarHandle")
    {W9 : Nat} {Pre : Pt → Array Value → Prop} {Post : Pt → Array Value → Option Value → Pt → Prop} {PostX : Pt → Array Value → Addr → Pt → Prop} (hK : vx_Back l R p e below s args y 3 W9 Pre Post PostX)
    {b : Addr} {cellB : Cell} (hcell : T.heap[b]? = some cellB) (hobj : cellB.vm.isStatics = false) (hcls : s.vm.findClass C = some cellB.cls)
    {g : JFrame} (hg : g.method = m) (hsize : g.locals.size = c.maxLocals) {argsL rest : List Value} (hlen : ∀ sig, parseMethodDescriptor y.desc = some sig → argsL.length = sig.parameters.length)
    (hstack : g.stack = argsL.reverse ++ .ref b :: rest) (hW : 2 * g.monitorRoom + (rest.map fun v => v.category).sum ≤ W9) (hdg : decode c.code g.pc = .ok (.invokevirtual index, 3))
    (hpre : ∀ vm₁, s.WarmedH vm₁ → Pre ⟨T.setVm vm₁, locs, cells, slots⟩ (Value.ref b :: argsL).toArray) :
    (∃ (v : Option Value) (vm₁ : Vm) (B : Pt), s.WarmedH vm₁ ∧ Stand p l e R s m args below meth c B.U B.locs B.cells B.slots ∧ Post ⟨T.setVm vm₁, locs, cells, slots⟩ (Value.ref b :: argsL).toArray v B ∧
      ∀ target, Steps p.tables e below (B.U.setTop { g with pc := g.pc + 3, stack := v.toList ++ rest }) target → Steps p.tables e below (T.setTop g) target) ∨
    (∃ (q : Addr) (vm₁ : Vm) (B : Pt), s.WarmedH vm₁ ∧ Stand p l e R s m args below meth c B.U B.locs B.cells B.slots ∧ PostX ⟨T.setVm vm₁, locs, cells, slots⟩ (Value.ref b :: argsL).toArray q B ∧
      Steps p.tables e below (T.setTop g) ((B.U.setTop { g with stack := rest }).pushFrame (.throwing q))) := by
  obtain ⟨mk, methM, hnamed, hmethM, hstM, habM⟩ := Cond.instanceMethod_spec hinst
  obtain ⟨methM', cM, hmethM', -, -, -, -, -, -, hsigM⟩ := Cond.code_spec hnamed hcode
  cases hmethM.symm.trans hmethM'
  obtain ⟨c2, r2, m2, q1, q2, q3, q4, kP, hkP, hkPi⟩ := Cond.selects_spec hsel
  cases hcls.symm.trans q1
  cases (State.methodFound?_of_named hnamed hy).symm.trans q2
  cases hnamed.symm.trans q3
  have hselP : selectMethod e.platform s.vm cellB.cls mk = .method mk := by rw [Launch.admits_selectMethod X.admits]; exact q4
  obtain ⟨vm₁, X₁, hstep₁⟩ := X.invokevirtual hexec hown hlink hnamed hmethM hstM hkP hkPi hy (a := b) (cell := cellB) hcell
    (fun z h => by rw [h] at hobj; cases hobj) hselP hmethM habM hkP hkPi (g := g) hg (argsL := argsL) (rest := rest) (hlen _ hsigM) hstack hdg
  rcases hK m meth c ⟨T.setVm vm₁, locs, cells, slots⟩ { g with stack := rest } (.invokevirtual index) mk (Value.ref b :: argsL).toArray X₁ hg hsize hdg hW (X₁.named hnamed) (hpre vm₁ X₁.warmed) with ⟨v, B, X', hpost, hsteps⟩ | ⟨q, B, X', hpost, hsteps⟩
  · exact Or.inl ⟨v, vm₁, B, X₁.warmed, X', hpost, fun target h => hstep₁ _ fun acts => by rw [doInvoke_state]; exact hsteps.trans h⟩
  · exact Or.inr ⟨q, vm₁, B, X₁.warmed, X', hpost, hstep₁ _ fun acts => by rw [doInvoke_state]; exact hsteps⟩
theorem vx_callS (X : Stand p l e R s m args below meth c T locs cells slots) (hexec : p.tables.exec = Jvm.exec) {own : String} {index : Nat} {y : MethodName} {bytes : ByteArray} {maxL : Nat} {ret : Option FieldType}
    (hown : s.vm.findClass own = some m.cls) (hlink : (Cond.methodLink own index y).before args s = true) (hstat : (Cond.static y).before args s = true) (hinit : (Cond.initialized y.cls).before args s = true)
    (hcode : (Cond.code y bytes maxL ret).before args s = true) (hy : y.cls ≠ "java/lang/invoke/MethodHandle" ∧ y.cls ≠ "java/lang/invoke/VarHandle")
    {W9 : Nat} {Pre : Pt → Array Value → Prop} {Post : Pt → Array Value → Option Value → Pt → Prop} {PostX : Pt → Array Value → Addr → Pt → Prop} (hK : vx_Back l R p e below s args y 3 W9 Pre Post PostX)
    {g : JFrame} (hg : g.method = m) (hsize : g.locals.size = c.maxLocals) {argsL rest : List Value} (hlen : ∀ sig, parseMethodDescriptor y.desc = some sig → argsL.length = sig.parameters.length)
    (hstack : g.stack = argsL.reverse ++ rest) (hW : 2 * g.monitorRoom + (rest.map fun v => v.category).sum ≤ W9) (hdg : decode c.code g.pc = .ok (.invokestatic index, 3))
    (hpre : ∀ vm₁, s.WarmedH vm₁ → Pre ⟨T.setVm vm₁, locs, cells, slots⟩ argsL.toArray) :
    (∃ (v : Option Value) (vm₁ : Vm) (B : Pt), s.WarmedH vm₁ ∧ Stand p l e R s m args below meth c B.U B.locs B.cells B.slots ∧ Post ⟨T.setVm vm₁, locs, cells, slots⟩ argsL.toArray v B ∧
      ∀ target, Steps p.tables e below (B.U.setTop { g with pc := g.pc + 3, stack := v.toList ++ rest }) target → Steps p.tables e below (T.setTop g) target) ∨
    (∃ (q : Addr) (vm₁ : Vm) (B : Pt), s.WarmedH vm₁ ∧ Stand p l e R s m args below meth c B.U B.locs B.cells B.slots ∧ PostX ⟨T.setVm vm₁, locs, cells, slots⟩ argsL.toArray q B ∧
      Steps p.tables e below (T.setTop g) ((B.U.setTop { g with stack := rest }).pushFrame (.throwing q))) := by
  obtain ⟨mk, hnamed⟩ := Cond.code_named hcode
  obtain ⟨methM, cM, hmethM, -, -, -, -, -, -, hsigM⟩ := Cond.code_spec hnamed hcode
  have hstatic : methM.isStatic = true := Cond.static_spec hnamed hmethM hstat
  obtain ⟨kP, hkP, -⟩ := className_of_methodNamed hnamed
  have hinitP : kP.init = .initialized := Cond.initialized_spec (findClass_of_methodNamed hnamed) hkP hinit
  obtain ⟨vm₁, X₁, hstep₁⟩ := X.invokestatic hexec hown hlink hnamed hmethM hstatic hkP hinitP hy (g := g) hg (argsL := argsL) (rest := rest) (hlen _ hsigM) hstack hdg
  rcases hK m meth c ⟨T.setVm vm₁, locs, cells, slots⟩ { g with stack := rest } (.invokestatic index) mk argsL.toArray X₁ hg hsize hdg hW (X₁.named hnamed) (hpre vm₁ X₁.warmed) with ⟨v, B, X', hpost, hsteps⟩ | ⟨q, B, X', hpost, hsteps⟩
  · exact Or.inl ⟨v, vm₁, B, X₁.warmed, X', hpost, fun target h => hstep₁ _ fun acts => by rw [doInvoke_state]; exact hsteps.trans h⟩
  · exact Or.inr ⟨q, vm₁, B, X₁.warmed, X', hpost, hstep₁ _ fun acts => by rw [doInvoke_state]; exact hsteps⟩
end Calls
theorem vx_cls {s : State} {T : State} {vm₁ : Vm} {E : String} {k : ClassId} (hW : s.WarmedH vm₁) (h : (T.setVm vm₁).vm.findClass E = some k) : s.vm.findClass E = some k := by
  have h1 : vm₁.findClass E = some k := h
  rw [hW.alike.findClass] at h1
  exact h1
def vx_W (p : Program) (l : Launch) (e : Env) (R : Room) (s : State) (m : MethodId) (args : Array Value) (below : List Frame) (meth : Method) (c : Code) (H : Heap) (locs : List Loc) (cells slots : Nat) (Q : State → Prop) (g : JFrame) (q : Addr) : Prop :=
  ∀ T : State, T.heap = H → Stand p l e R s m args below meth c T locs cells slots → ∃ t, Steps p.tables e below ((T.setTop g).pushFrame (.throwing q)) t ∧ Q t
def vx_Run (p : Program) (l : Launch) (e : Env) (R : Room) (s : State) (m : MethodId) (args : Array Value) (below : List Frame) (meth : Method) (c : Code) (H : Heap) (locs : List Loc) (cells slots mc ms : Nat) (g : JFrame) (rest : List Value) (Qa : State → Outcome → State → Prop) (XC : String → State → State → Prop) (free : Addr → Prop) : Prop :=
  ∀ T : State, T.heap = H → Stand p l e R s m args below meth c T locs cells slots →
    (∃ (v : Option Value) (st₀ t T' : State) (L : List Loc), st₀.heap = H ∧ Stand p l e R s m args below meth c T' (locs ++ L) (cells + mc) (slots + ms) ∧ (∀ q ∈ L, free q.base) ∧ T'.heap = t.heap ∧ T'.vm = t.vm ∧ Qa st₀ (.returned v) t ∧
      Goes p e below T g T' { g with pc := g.pc + 3, stack := v.toList ++ rest }) ∨
    (∃ (q : Addr) (st₀ t T' : State) (L : List Loc) (E : String) (ce : Cell), st₀.heap = H ∧ Stand p l e R s m args below meth c T' (locs ++ L) (cells + mc) (slots + ms) ∧ (∀ z ∈ L, free z.base) ∧ T'.heap = t.heap ∧ T'.vm = t.vm ∧ XC E st₀ t ∧ t.heap[q]? = some ce ∧ ce.vm = .none ∧ s.vm.findClass E = some ce.cls ∧
      Steps p.tables e below (T.setTop g) ((T'.setTop { g with stack := rest }).pushFrame (.throwing q)))
def vx_X {S : Type} (px : S → Prop) (B : String → S → State → Prop) (A : Nat → Prop) : String → State → State → Prop := fun E st t => ∃ u : S, px u ∧ B E u t ∧ va_F A st t
section Runs
variable {p : Program} {l : Launch} {e : Env} {R : Room} {s : State} {m : MethodId} {args : Array Value} {below : List Frame} {meth : Method} {c : Code} {H : Heap} {locs : List Loc} {cells slots : Nat}
variable {y : MethodName} {bytes cc : ByteArray} {maxL nL mc ms n index : Nat} {ret : Option FieldType} {ws : List Cond} {rm : Room} {Pc : Array Value → State → Prop} {Qc : Array Value → State → Outcome → State → Prop} {XC : String → State → State → Prop} {free : Addr → Prop} {Ts : List Cond} {own C : String} {b : Addr} {As rest : List Value} {g : JFrame}
theorem vx_callBack (cb : CallB R s args own index y bytes maxL ret ws rm mc ms n) (hM : vx_Met l y ws rm Pc Qc XC mc ms free) (hbl : FrameBlind Pc) : vx_Back l R p e below s args y 3 8 (PreOf R mc ms Pc) (PostOf Qc mc ms free) (vx_Post XC mc ms free) := by
  obtain ⟨hrc, hrs, hfr, hlo, hws, hcw, -, hini, -⟩ := cb
  exact vx_back (bytes := bytes) (maxL := maxL) (ret := ret) hM hbl hrc hrs hfr hlo hws hcw (fun a' U hW => word_at hW (Or.inl (by first | rfl | simp [Cond.onTables, Cond.keeps, Cond.steady])) hini)
theorem vx_runV (S : CallFix p m c cc nL s args Ts own) (hM : vx_Met l y ws rm Pc Qc XC mc ms free) (cw : CallW R s args own C index y bytes maxL ret ws rm mc ms n) (hp : PreV s H C b Pc As)
    (hg : g.method = m) (hn : As.length = n) (hsize : g.locals.size = nL) (hstack : g.stack = As.reverse ++ .ref b :: rest) (hW : 2 * g.monitorRoom + (rest.map fun v => v.category).sum ≤ 8) (hdg : decode cc g.pc = .ok (.invokevirtual index, 3)) (hf : cells + mc ≤ R.cells ∧ slots + ms ≤ R.slots) :
    vx_Run p l e R s m args below meth c H locs cells slots mc ms g rest (Qc (Value.ref b :: As).toArray) XC free := by
  have hK : vx_Back l R p e below s args y 3 8 (PreOf R mc ms Pc) (PostOf Qc mc ms free) (vx_Post XC mc ms free) := vx_callBack cw.1 hM hp.1
  obtain ⟨⟨-, -, -, -, -, -, hcode, -, hy, hlen, hl⟩, hin, hse⟩ := cw
  obtain ⟨hx, hb, hml, ho, -⟩ := S
  obtain ⟨-, ⟨cellB, hcB, hoB, hclB⟩, hPc⟩ := hp
  intro T hT X
  rcases vx_callV X hx (C := C) (bytes := bytes) (maxL := maxL) (ret := ret) ho hl hin hse hcode hy hK (by rw [hT]; exact hcB) hoB hclB hg (hsize.trans hml.symm) (argsL := As) (rest := rest) (fun sig h => hn.trans (hlen sig h)) hstack hW (by rw [hb]; exact hdg)
    (fun vm₁ hW₁ => ⟨hf.1, hf.2, hPc (T.setVm vm₁) hT hW₁⟩) with ⟨v, vm₁, ⟨U', l2, c2, s2⟩, hW₁, X', ⟨g', mk, t, L, e1, e2, hq, h1, hL, h2, h3⟩, st⟩ | ⟨q, vm₁, ⟨U', l2, c2, s2⟩, hW₁, X', ⟨g', mk, t, L, E, ce, e1, e2, hq, hce, hcv, hcl, h1, hL, h2, h3⟩, st⟩
  · dsimp only [Pt.U, Pt.locs, Pt.cells, Pt.slots] at X' e1 e2 h1 h2 h3 st
    subst h1; subst h2; subst h3
    exact Or.inl ⟨v, (T.setVm vm₁).calling g' mk (Value.ref b :: As).toArray, t, U', L, hT, X', hL, e1, e2, hq, st⟩
  · dsimp only [Pt.U, Pt.locs, Pt.cells, Pt.slots] at X' e1 e2 h1 h2 h3 st hcl
    subst h1; subst h2; subst h3
    exact Or.inr ⟨q, (T.setVm vm₁).calling g' mk (Value.ref b :: As).toArray, t, U', L, E, ce, hT, X', hL, e1, e2, hq, hce, hcv, vx_cls hW₁ hcl, st⟩
theorem vx_runS (S : CallFix p m c cc nL s args Ts own) (hM : vx_Met l y ws rm Pc Qc XC mc ms free) (cw : CallB R s args own index y bytes maxL ret ws rm mc ms n ∧ (Cond.static y).before args s = true) (hp : PreS s H Pc As)
    (hg : g.method = m) (hn : As.length = n) (hsize : g.locals.size = nL) (hstack : g.stack = As.reverse ++ rest) (hW : 2 * g.monitorRoom + (rest.map fun v => v.category).sum ≤ 8) (hdg : decode cc g.pc = .ok (.invokestatic index, 3)) (hf : cells + mc ≤ R.cells ∧ slots + ms ≤ R.slots) :
    vx_Run p l e R s m args below meth c H locs cells slots mc ms g rest (Qc As.toArray) XC free := by
  have hK : vx_Back l R p e below s args y 3 8 (PreOf R mc ms Pc) (PostOf Qc mc ms free) (vx_Post XC mc ms free) := vx_callBack cw.1 hM hp.1
  obtain ⟨⟨-, -, -, -, -, -, hcode, hini, hy, hlen, hl⟩, hstt⟩ := cw
  obtain ⟨hx, hb, hml, ho, -⟩ := S
  intro T hT X
  rcases vx_callS X hx (bytes := bytes) (maxL := maxL) (ret := ret) ho hl hstt hini hcode hy hK hg (hsize.trans hml.symm) (argsL := As) (rest := rest) (fun sig h => hn.trans (hlen sig h)) hstack hW (by rw [hb]; exact hdg)
    (fun vm₁ hW₁ => ⟨hf.1, hf.2, hp.2 (T.setVm vm₁) hT hW₁⟩) with ⟨v, vm₁, ⟨U', l2, c2, s2⟩, hW₁, X', ⟨g', mk, t, L, e1, e2, hq, h1, hL, h2, h3⟩, st⟩ | ⟨q, vm₁, ⟨U', l2, c2, s2⟩, hW₁, X', ⟨g', mk, t, L, E, ce, e1, e2, hq, hce, hcv, hcl, h1, hL, h2, h3⟩, st⟩
  · dsimp only [Pt.U, Pt.locs, Pt.cells, Pt.slots] at X' e1 e2 h1 h2 h3 st
    subst h1; subst h2; subst h3
    exact Or.inl ⟨v, (T.setVm vm₁).calling g' mk As.toArray, t, U', L, hT, X', hL, e1, e2, hq, st⟩
  · dsimp only [Pt.U, Pt.locs, Pt.cells, Pt.slots] at X' e1 e2 h1 h2 h3 st hcl
    subst h1; subst h2; subst h3
    exact Or.inr ⟨q, (T.setVm vm₁).calling g' mk As.toArray, t, U', L, E, ce, hT, X', hL, e1, e2, hq, hce, hcv, vx_cls hW₁ hcl, st⟩
end Runs
section Rows
variable {p : Program} {l : Launch} {e : Env} {R : Room} {s : State} {m : MethodId} {args : Array Value} {below : List Frame} {meth : Method} {c : Code} {H : Heap} {locs : List Loc} {cells slots : Nat} {Q : State → Prop}
variable {mc ms : Nat} {free : Addr → Prop} {A0 A1 : Nat → Prop} {H0 : Heap} {a : Array Value} {pc : Nat} {ls : Array Slot} {st0 rest : List Value}
theorem vx_keep {st₀ t T' : State} {L : List Loc} (h0 : st₀.heap = H) (e1 : T'.heap = t.heap) (hS : va_S A0 H0 H locs) (hA : ∀ q, q < H.size → A1 q → A0 q) (hf : ∀ q, free q → A0 q) (hL : ∀ q ∈ L, free q.base) (hF : va_F A1 st₀ t) :
    H.size ≤ T'.heap.size ∧ (∀ q : Nat, q < H.size → ¬ A1 q → T'.heap[q]? = H[q]?) ∧ va_S A0 H0 T'.heap (locs ++ L) := by
  obtain ⟨hz, hk⟩ := hF
  rw [h0] at hz hk
  exact ⟨by rw [e1]; exact hz, fun q h1 h2 => by rw [e1]; exact hk q h1 h2,
    ⟨Nat.le_trans hS.1 (by rw [e1]; exact hz), fun q h1 h2 => by rw [e1, hk q (Nat.lt_of_lt_of_le h1 hS.1) (fun z => h2 (hA q (Nat.lt_of_lt_of_le h1 hS.1) z))]; exact hS.2.1 q h1 h2, fun q hq => by
      rcases List.mem_append.mp hq with h | h
      · exact hS.2.2 q h
      · exact hf _ (hL q h)⟩⟩
theorem vx_calli {S SX : Type} {post : Int32 → S → Prop} {px : SX → Prop} {B : S → State → Prop} {BX : String → SX → State → Prop} {AX : Nat → Prop} (hr : vx_Run p l e R s m args below meth c H locs cells slots mc ms (F0 m pc ls st0) rest (va_Qi post B A1 a) (vx_X px BX AX) free) (hS : va_S A0 H0 H locs) (hA : ∀ q, q < H.size → A1 q → A0 q) (hf : ∀ q, free q → A0 q) (hAX : ∀ q, q < H.size → AX q → A0 q)
    (kx : ∀ (E : String) (ce : Cell) (q9 : Addr) (u : SX) (t : State) (H1 : Heap) (locs1 : List Loc), t.heap = H1 → s.vm.Alike t.vm → px u → BX E u t → H.size ≤ H1.size → (∀ q : Nat, q < H.size → ¬ AX q → H1[q]? = H[q]?) → va_S A0 H0 H1 locs1 → H1[q9]? = some ce → ce.vm = .none → s.vm.findClass E = some ce.cls → vx_W p l e R s m args below meth c H1 locs1 (cells + mc) (slots + ms) Q (F0 m pc ls rest) q9)
    (kk : ∀ (r : Int32) (u : S) (t : State) (H1 : Heap) (locs1 : List Loc), t.heap = H1 → s.vm.Alike t.vm → post r u → B u t → H.size ≤ H1.size → (∀ q : Nat, q < H.size → ¬ A1 q → H1[q]? = H[q]?) → va_S A0 H0 H1 locs1 → W p l e R s m args below meth c H1 locs1 (cells + mc) (slots + ms) Q (F0 m (pc + 3) ls (.int r :: rest))) : W p l e R s m args below meth c H locs cells slots Q (F0 m pc ls st0) := by
  intro T hT X
  rcases hr T hT X with ⟨v, st₀, t, T', L, h0, X', hL, e1, e2, ⟨⟨r, u, hv, hp, hb⟩, hF⟩, st⟩ | ⟨q, st₀, t, T', L, E, ce, h0, X', hL, e1, e2, ⟨u, hp, hb, hF⟩, hce, hcv, hcl, st⟩
  · cases hv
    obtain ⟨k1, k2, k3⟩ := vx_keep h0 e1 hS hA hf hL hF
    obtain ⟨t2, a1, b1⟩ := kk r u t T'.heap (locs ++ L) e1.symm (by rw [← e2]; exact X'.warmed.alike) hp hb k1 k2 k3 T' rfl X'
    exact ⟨t2, st t2 a1, b1⟩
  · obtain ⟨k1, k2, k3⟩ := vx_keep h0 e1 hS hAX hf hL hF
    obtain ⟨t2, a1, b1⟩ := kx E ce q u t T'.heap (locs ++ L) e1.symm (by rw [← e2]; exact X'.warmed.alike) hp hb k1 k2 k3 (by rw [e1]; exact hce) hcv hcl T' rfl X'
    exact ⟨t2, st.trans a1, b1⟩
theorem vx_calll {S SX : Type} {post : Int64 → S → Prop} {px : SX → Prop} {B : S → State → Prop} {BX : String → SX → State → Prop} {AX : Nat → Prop} (hr : vx_Run p l e R s m args below meth c H locs cells slots mc ms (F0 m pc ls st0) rest (va_Ql post B A1 a) (vx_X px BX AX) free) (hS : va_S A0 H0 H locs) (hA : ∀ q, q < H.size → A1 q → A0 q) (hf : ∀ q, free q → A0 q) (hAX : ∀ q, q < H.size → AX q → A0 q)
    (kx : ∀ (E : String) (ce : Cell) (q9 : Addr) (u : SX) (t : State) (H1 : Heap) (locs1 : List Loc), t.heap = H1 → s.vm.Alike t.vm → px u → BX E u t → H.size ≤ H1.size → (∀ q : Nat, q < H.size → ¬ AX q → H1[q]? = H[q]?) → va_S A0 H0 H1 locs1 → H1[q9]? = some ce → ce.vm = .none → s.vm.findClass E = some ce.cls → vx_W p l e R s m args below meth c H1 locs1 (cells + mc) (slots + ms) Q (F0 m pc ls rest) q9)
    (kk : ∀ (r : Int64) (u : S) (t : State) (H1 : Heap) (locs1 : List Loc), t.heap = H1 → s.vm.Alike t.vm → post r u → B u t → H.size ≤ H1.size → (∀ q : Nat, q < H.size → ¬ A1 q → H1[q]? = H[q]?) → va_S A0 H0 H1 locs1 → W p l e R s m args below meth c H1 locs1 (cells + mc) (slots + ms) Q (F0 m (pc + 3) ls (.long r :: rest))) : W p l e R s m args below meth c H locs cells slots Q (F0 m pc ls st0) := by
  intro T hT X
  rcases hr T hT X with ⟨v, st₀, t, T', L, h0, X', hL, e1, e2, ⟨⟨r, u, hv, hp, hb⟩, hF⟩, st⟩ | ⟨q, st₀, t, T', L, E, ce, h0, X', hL, e1, e2, ⟨u, hp, hb, hF⟩, hce, hcv, hcl, st⟩
  · cases hv
    obtain ⟨k1, k2, k3⟩ := vx_keep h0 e1 hS hA hf hL hF
    obtain ⟨t2, a1, b1⟩ := kk r u t T'.heap (locs ++ L) e1.symm (by rw [← e2]; exact X'.warmed.alike) hp hb k1 k2 k3 T' rfl X'
    exact ⟨t2, st t2 a1, b1⟩
  · obtain ⟨k1, k2, k3⟩ := vx_keep h0 e1 hS hAX hf hL hF
    obtain ⟨t2, a1, b1⟩ := kx E ce q u t T'.heap (locs ++ L) e1.symm (by rw [← e2]; exact X'.warmed.alike) hp hb k1 k2 k3 (by rw [e1]; exact hce) hcv hcl T' rfl X'
    exact ⟨t2, st.trans a1, b1⟩
theorem vx_callf {S SX : Type} {post : UInt32 → S → Prop} {px : SX → Prop} {B : S → State → Prop} {BX : String → SX → State → Prop} {AX : Nat → Prop} (hr : vx_Run p l e R s m args below meth c H locs cells slots mc ms (F0 m pc ls st0) rest (va_Qf post B A1 a) (vx_X px BX AX) free) (hS : va_S A0 H0 H locs) (hA : ∀ q, q < H.size → A1 q → A0 q) (hf : ∀ q, free q → A0 q) (hAX : ∀ q, q < H.size → AX q → A0 q)
    (kx : ∀ (E : String) (ce : Cell) (q9 : Addr) (u : SX) (t : State) (H1 : Heap) (locs1 : List Loc), t.heap = H1 → s.vm.Alike t.vm → px u → BX E u t → H.size ≤ H1.size → (∀ q : Nat, q < H.size → ¬ AX q → H1[q]? = H[q]?) → va_S A0 H0 H1 locs1 → H1[q9]? = some ce → ce.vm = .none → s.vm.findClass E = some ce.cls → vx_W p l e R s m args below meth c H1 locs1 (cells + mc) (slots + ms) Q (F0 m pc ls rest) q9)
    (kk : ∀ (r : UInt32) (u : S) (t : State) (H1 : Heap) (locs1 : List Loc), t.heap = H1 → s.vm.Alike t.vm → post r u → B u t → H.size ≤ H1.size → (∀ q : Nat, q < H.size → ¬ A1 q → H1[q]? = H[q]?) → va_S A0 H0 H1 locs1 → W p l e R s m args below meth c H1 locs1 (cells + mc) (slots + ms) Q (F0 m (pc + 3) ls (.float r :: rest))) : W p l e R s m args below meth c H locs cells slots Q (F0 m pc ls st0) := by
  intro T hT X
  rcases hr T hT X with ⟨v, st₀, t, T', L, h0, X', hL, e1, e2, ⟨⟨r, u, hv, hp, hb⟩, hF⟩, st⟩ | ⟨q, st₀, t, T', L, E, ce, h0, X', hL, e1, e2, ⟨u, hp, hb, hF⟩, hce, hcv, hcl, st⟩
  · cases hv
    obtain ⟨k1, k2, k3⟩ := vx_keep h0 e1 hS hA hf hL hF
    obtain ⟨t2, a1, b1⟩ := kk r u t T'.heap (locs ++ L) e1.symm (by rw [← e2]; exact X'.warmed.alike) hp hb k1 k2 k3 T' rfl X'
    exact ⟨t2, st t2 a1, b1⟩
  · obtain ⟨k1, k2, k3⟩ := vx_keep h0 e1 hS hAX hf hL hF
    obtain ⟨t2, a1, b1⟩ := kx E ce q u t T'.heap (locs ++ L) e1.symm (by rw [← e2]; exact X'.warmed.alike) hp hb k1 k2 k3 (by rw [e1]; exact hce) hcv hcl T' rfl X'
    exact ⟨t2, st.trans a1, b1⟩
theorem vx_calld {S SX : Type} {post : UInt64 → S → Prop} {px : SX → Prop} {B : S → State → Prop} {BX : String → SX → State → Prop} {AX : Nat → Prop} (hr : vx_Run p l e R s m args below meth c H locs cells slots mc ms (F0 m pc ls st0) rest (va_Qd post B A1 a) (vx_X px BX AX) free) (hS : va_S A0 H0 H locs) (hA : ∀ q, q < H.size → A1 q → A0 q) (hf : ∀ q, free q → A0 q) (hAX : ∀ q, q < H.size → AX q → A0 q)
    (kx : ∀ (E : String) (ce : Cell) (q9 : Addr) (u : SX) (t : State) (H1 : Heap) (locs1 : List Loc), t.heap = H1 → s.vm.Alike t.vm → px u → BX E u t → H.size ≤ H1.size → (∀ q : Nat, q < H.size → ¬ AX q → H1[q]? = H[q]?) → va_S A0 H0 H1 locs1 → H1[q9]? = some ce → ce.vm = .none → s.vm.findClass E = some ce.cls → vx_W p l e R s m args below meth c H1 locs1 (cells + mc) (slots + ms) Q (F0 m pc ls rest) q9)
    (kk : ∀ (r : UInt64) (u : S) (t : State) (H1 : Heap) (locs1 : List Loc), t.heap = H1 → s.vm.Alike t.vm → post r u → B u t → H.size ≤ H1.size → (∀ q : Nat, q < H.size → ¬ A1 q → H1[q]? = H[q]?) → va_S A0 H0 H1 locs1 → W p l e R s m args below meth c H1 locs1 (cells + mc) (slots + ms) Q (F0 m (pc + 3) ls (.double r :: rest))) : W p l e R s m args below meth c H locs cells slots Q (F0 m pc ls st0) := by
  intro T hT X
  rcases hr T hT X with ⟨v, st₀, t, T', L, h0, X', hL, e1, e2, ⟨⟨r, u, hv, hp, hb⟩, hF⟩, st⟩ | ⟨q, st₀, t, T', L, E, ce, h0, X', hL, e1, e2, ⟨u, hp, hb, hF⟩, hce, hcv, hcl, st⟩
  · cases hv
    obtain ⟨k1, k2, k3⟩ := vx_keep h0 e1 hS hA hf hL hF
    obtain ⟨t2, a1, b1⟩ := kk r u t T'.heap (locs ++ L) e1.symm (by rw [← e2]; exact X'.warmed.alike) hp hb k1 k2 k3 T' rfl X'
    exact ⟨t2, st t2 a1, b1⟩
  · obtain ⟨k1, k2, k3⟩ := vx_keep h0 e1 hS hAX hf hL hF
    obtain ⟨t2, a1, b1⟩ := kx E ce q u t T'.heap (locs ++ L) e1.symm (by rw [← e2]; exact X'.warmed.alike) hp hb k1 k2 k3 (by rw [e1]; exact hce) hcv hcl T' rfl X'
    exact ⟨t2, st.trans a1, b1⟩
theorem vx_callv {S SX : Type} {post : S → Prop} {px : SX → Prop} {B : S → State → Prop} {BX : String → SX → State → Prop} {AX : Nat → Prop} (hr : vx_Run p l e R s m args below meth c H locs cells slots mc ms (F0 m pc ls st0) rest (va_Qv post B A1 a) (vx_X px BX AX) free) (hS : va_S A0 H0 H locs) (hA : ∀ q, q < H.size → A1 q → A0 q) (hf : ∀ q, free q → A0 q) (hAX : ∀ q, q < H.size → AX q → A0 q)
    (kx : ∀ (E : String) (ce : Cell) (q9 : Addr) (u : SX) (t : State) (H1 : Heap) (locs1 : List Loc), t.heap = H1 → s.vm.Alike t.vm → px u → BX E u t → H.size ≤ H1.size → (∀ q : Nat, q < H.size → ¬ AX q → H1[q]? = H[q]?) → va_S A0 H0 H1 locs1 → H1[q9]? = some ce → ce.vm = .none → s.vm.findClass E = some ce.cls → vx_W p l e R s m args below meth c H1 locs1 (cells + mc) (slots + ms) Q (F0 m pc ls rest) q9)
    (kk : ∀ (u : S) (t : State) (H1 : Heap) (locs1 : List Loc), t.heap = H1 → s.vm.Alike t.vm → post u → B u t → H.size ≤ H1.size → (∀ q : Nat, q < H.size → ¬ A1 q → H1[q]? = H[q]?) → va_S A0 H0 H1 locs1 → W p l e R s m args below meth c H1 locs1 (cells + mc) (slots + ms) Q (F0 m (pc + 3) ls (rest))) : W p l e R s m args below meth c H locs cells slots Q (F0 m pc ls st0) := by
  intro T hT X
  rcases hr T hT X with ⟨v, st₀, t, T', L, h0, X', hL, e1, e2, ⟨⟨u, hv, hp, hb⟩, hF⟩, st⟩ | ⟨q, st₀, t, T', L, E, ce, h0, X', hL, e1, e2, ⟨u, hp, hb, hF⟩, hce, hcv, hcl, st⟩
  · cases hv
    obtain ⟨k1, k2, k3⟩ := vx_keep h0 e1 hS hA hf hL hF
    obtain ⟨t2, a1, b1⟩ := kk u t T'.heap (locs ++ L) e1.symm (by rw [← e2]; exact X'.warmed.alike) hp hb k1 k2 k3 T' rfl X'
    exact ⟨t2, st t2 a1, b1⟩
  · obtain ⟨k1, k2, k3⟩ := vx_keep h0 e1 hS hAX hf hL hF
    obtain ⟨t2, a1, b1⟩ := kx E ce q u t T'.heap (locs ++ L) e1.symm (by rw [← e2]; exact X'.warmed.alike) hp hb k1 k2 k3 (by rw [e1]; exact hce) hcv hcl T' rfl X'
    exact ⟨t2, st.trans a1, b1⟩
end Rows
section Ends
variable {p : Program} {l : Launch} {e : Env} {R : Room} {s : State} {m : MethodId} {args : Array Value} {below : List Frame} {meth : Method} {c : Code} {H : Heap} {locs : List Loc} {cells slots : Nat} {Q : State → Prop}
variable {mc ms : Nat} {free : Addr → Prop} {A0 A1 : Nat → Prop} {H0 : Heap} {a : Array Value} {ls : Array Slot} {st0 rest : List Value}
variable {Qc : Array Value → State → Outcome → State → Prop} {XC : String → State → State → Prop}
def vx_MQ (below : List Frame) (Qc : Array Value → State → Outcome → State → Prop) (XC : String → State → State → Prop) (a : Array Value) (s : State) (mc ms : Nat) (free : Addr → Prop) : State → Prop := fun t =>
  ∃ o, t.status = .running ∧ Ended t below o ∧ vx_Q Qc XC mc ms free a s o t
theorem vx_ret {g : JFrame} {mc ms : Nat} (k : W p l e R s m args below meth c H locs cells slots (MQ below Qc args s mc ms free) g) : W p l e R s m args below meth c H locs cells slots (vx_MQ below Qc XC args s mc ms free) g := by
  intro T hT X
  obtain ⟨t, a1, o, b1, b2, b3, b4⟩ := k T hT X
  exact ⟨t, a1, o, b1, b2, Or.inl ⟨b3, b4⟩⟩
theorem vx_widen {g : JFrame} {q : Addr} {k n : Nat} (h1 : cells ≤ k) (h2 : slots ≤ n) (kk : vx_W p l e R s m args below meth c H locs k n Q g q) : vx_W p l e R s m args below meth c H locs cells slots Q g q := fun T hT X => kk T hT (stand_widen X h1 h2)
theorem vx_out {pc : Nat} {E : String} {ce : Cell} {q : Addr} {mc ms : Nat} (hout : ∀ x ∈ c.exceptionTable.toList, covers x pc = false) (hlocks : meth.locks = false) (hcell : H[q]? = some ce) (hv : ce.vm = .none) (hcl : s.vm.findClass E = some ce.cls)
    (hx : ∀ t : State, t.heap = H → s.vm.Alike t.vm → XC E s t) (hf : ∀ z ∈ locs, free z.base) (hc : cells ≤ mc) (hs : slots ≤ ms) :
    vx_W p l e R s m args below meth c H locs cells slots (vx_MQ below Qc XC args s mc ms free) (F0 m pc ls rest) q := by
  intro T hT X
  obtain ⟨st1, hrun, hend, hW, hsm⟩ := X.leaveThrown q (g := F0 m pc ls rest) rfl rfl rfl hout hlocks
  have hcell9 : (T.setFrames (.throwing q :: below)).heap[q]? = some ce := by
    show T.heap[q]? = some ce
    rw [hT]; exact hcell
  exact ⟨_, st1, .threw q, hrun, hend, Or.inr ⟨q, rfl, E, ce, locs, hx _ hT hW.alike, hcell9, hv, hcl, hW, hsm.mono hc hs, hf⟩⟩
theorem vx_frame {U : State} {k n : Nat} (h : s.sameButNew ({ U with vm := s.vm } : State) locs k n) : s.heap.size ≤ U.heap.size ∧ ∀ q : Nat, q < s.heap.size → (∀ z ∈ locs, z.base ≠ q) → U.heap[q]? = s.heap[q]? := by
  obtain ⟨-, h2, -, -, -, h6⟩ := h
  refine ⟨h2, fun q hq hz => ?_⟩
  obtain ⟨c9, e1, e2, e3, e4⟩ := h6 q _ (Array.getElem?_eq_getElem hq)
  have hs : c9.slots = (s.heap[q]).slots := Array.ext_getElem? fun i => e4 i fun hm => hz _ hm rfl
  have h9 : c9 = s.heap[q] := by
    rw [hs] at e2
    exact e2
  have e5 : U.heap[q]? = some c9 := e1
  rw [e5, h9, Array.getElem?_eq_getElem hq]
def vx_no (w : Cond) : Bool := decide (w ≠ .isRef (.static Bundle.tN "UNASSIGNED_STACK" Bundle.steD)) && decide (w ≠ .isRef (.static Bundle.tN "SUPPRESSED_SENTINEL" Bundle.listD)) && decide (w ≠ .laysStatic Bundle.tN "UNASSIGNED_STACK" Bundle.steD) && decide (w ≠ .laysStatic Bundle.tN "SUPPRESSED_SENTINEL" Bundle.listD)
def vx_at0 (own : String) (ic : Nat) (X : String) (names : List String) : List Cond := (Bundle.ownAtoms0 own ic X names).filter vx_no
def vx_atS (own : String) (ic : Nat) (X : String) (names : List String) : List Cond := (Bundle.ownAtoms own ic X names).filter vx_no
def vx_ot (w : Cond) : Bool := w.onTables || goodWord w
theorem vx_ot_at {args a' : Array Value} {s U : State} {w : Cond} (hW : s.WarmedH U.vm) (hvm : s.vm = U.vm) (hg : vx_ot w = true) (h : w.before args s = true) : w.before a' U = true := by
  simp only [vx_ot, Bool.or_eq_true] at hg
  rcases hg with hg | hg
  · exact va_tabs hg hvm h
  · exact word_at hW (good_of_word hg) h
theorem vx_hat {args : Array Value} {s : State} {L B : List Cond} (h1 : ∀ w ∈ L.filter goodWord, w.before args s = true) (h2 : ∀ w ∈ L.filter (fun w => !goodWord w), w ∈ B) (h3 : ∀ w ∈ B, w.before args s = true) : ∀ w ∈ L, w.before args s = true := by
  intro w hw
  by_cases g : goodWord w = true
  · exact h1 w (List.mem_filter.mpr ⟨hw, g⟩)
  · refine h3 w (h2 w (List.mem_filter.mpr ⟨hw, ?_⟩))
    show (!goodWord w) = true
    cases hgw : goodWord w
    · rfl
    · exact absurd hgw g
theorem vx_c {args : Array Value} {s : State} {w : Cond} {B : List Cond} (h : w.before args s = true) (t : ∀ w ∈ B, w.before args s = true) : ∀ w' ∈ w :: B, w'.before args s = true := fun w' h' => (List.mem_cons.mp h').elim (fun e => by rw [e]; exact h) (t w')
theorem vx_n {args : Array Value} {s : State} : ∀ w ∈ ([] : List Cond), w.before args s = true := fun _ h => nomatch h
theorem vx_own {args : Array Value} {s : State} {L : List Cond} (h1 : ∀ w ∈ L.filter vx_no, w.before args s = true)
    (hU : (Cond.isRef (.static Bundle.tN "UNASSIGNED_STACK" Bundle.steD)).before args s = true) (hN : (Cond.isRef (.static Bundle.tN "SUPPRESSED_SENTINEL" Bundle.listD)).before args s = true)
    (lU : (Cond.laysStatic Bundle.tN "UNASSIGNED_STACK" Bundle.steD).before args s = true) (lN : (Cond.laysStatic Bundle.tN "SUPPRESSED_SENTINEL" Bundle.listD).before args s = true) : ∀ w ∈ L, w.before args s = true := by
  intro w hw
  by_cases e1 : w = .isRef (.static Bundle.tN "UNASSIGNED_STACK" Bundle.steD)
  · rw [e1]; exact hU
  · by_cases e2 : w = .isRef (.static Bundle.tN "SUPPRESSED_SENTINEL" Bundle.listD)
    · rw [e2]; exact hN
    · by_cases e3 : w = .laysStatic Bundle.tN "UNASSIGNED_STACK" Bundle.steD
      · rw [e3]; exact lU
      · by_cases e4 : w = .laysStatic Bundle.tN "SUPPRESSED_SENTINEL" Bundle.listD
        · rw [e4]; exact lN
        · exact h1 w (List.mem_filter.mpr ⟨hw, by unfold vx_no; rw [decide_eq_true e1, decide_eq_true e2, decide_eq_true e3, decide_eq_true e4]; rfl⟩)
def vx_L (C n d : String) (A : Nat → Prop) (U : State) (H : Heap) : Prop := ∃ (c : ClassId) (k : Class) (i : Nat) (f : Field) (a : Nat) (cell : Cell), U.vm.findClass C = some c ∧ U.fieldFound? C n d = some (c, k, i, f) ∧ f.isStatic = true ∧ k.statics = some a ∧ H[a]? = some cell ∧ cell.vm.isStatics = true ∧ cell.cls = c ∧ f.slot < cell.slots.size ∧ k.staticTypes[f.slot]? = some f.type ∧ ¬ A a
theorem vx_L.moved {C n d : String} {A : Nat → Prop} {u U : State} {H : Heap} (hvm : u.vm.Alike U.vm) (h : vx_L C n d A u H) : vx_L C n d A U H := by
  obtain ⟨c, k, i, f, a, cell, h1, h2, h3, h4, h5, h6, h7, h8, h9, h10⟩ := h
  obtain ⟨k', hi', he⟩ := State.fieldFound?_setVm hvm h2
  exact ⟨c, k', i, f, a, cell, by rw [hvm.findClass]; exact h1, hi', h3, by rw [he]; exact h4, h5, h6, h7, h8, by rw [he]; exact h9, h10⟩
theorem vx_L.kept {C n d : String} {A : Nat → Prop} {U : State} {H H1 : Heap} (h : vx_L C n d A U H) (hq : ∀ a : Nat, a < H.size → ¬ A a → H1[a]? = H[a]?) : vx_L C n d A U H1 := by
  obtain ⟨c, k, i, f, a, cell, h1, h2, h3, h4, h5, h6, h7, h8, h9, h10⟩ := h
  exact ⟨c, k, i, f, a, cell, h1, h2, h3, h4, by rw [hq a (Array.getElem?_eq_some_iff.mp h5).1 h10]; exact h5, h6, h7, h8, h9, h10⟩
theorem vx_L.narrow {C n d : String} {A B : Nat → Prop} {U : State} {H : Heap} (h : vx_L C n d A U H) (hAB : ∀ q, B q → A q) : vx_L C n d B U H := by
  obtain ⟨c, k, i, f, a, cell, h1, h2, h3, h4, h5, h6, h7, h8, h9, h10⟩ := h
  exact ⟨c, k, i, f, a, cell, h1, h2, h3, h4, h5, h6, h7, h8, h9, fun z => h10 (hAB _ z)⟩
theorem vx_L.word {C n d : String} {A : Nat → Prop} {s : State} {args : Array Value} (h : vx_L C n d A s s.heap) : (Cond.laysStatic C n d).before args s = true := by
  obtain ⟨c, k, i, f, a, cell, h1, h2, h3, h4, h5, h6, h7, h8, h9, -⟩ := h
  show (Cond.laysStatic C n d).holds args s none s [] = true
  exact Cond.laysStatic_of h1 h2 h3 h4 h5 h6 h7 h8 h9
def vx_Zq (C n d : String) (A : Nat → Prop) (U : State) (H : Heap) : Prop := va_Zq C n d A U H ∧ vx_L C n d A U H
theorem vx_Zq.moved {C n d : String} {A : Nat → Prop} {u U : State} {H : Heap} (hvm : u.vm.Alike U.vm) (h : vx_Zq C n d A u H) : vx_Zq C n d A U H := ⟨va_Zq.moved hvm h.1, vx_L.moved hvm h.2⟩
theorem vx_Zq.kept {C n d : String} {A : Nat → Prop} {U : State} {H H1 : Heap} (h : vx_Zq C n d A U H) (hq : ∀ a : Nat, a < H.size → ¬ A a → H1[a]? = H[a]?) : vx_Zq C n d A U H1 := ⟨va_Zq.kept h.1 hq, vx_L.kept h.2 hq⟩
theorem vx_Zq.narrow {C n d : String} {A B : Nat → Prop} {U : State} {H : Heap} (h : vx_Zq C n d A U H) (hAB : ∀ q, B q → A q) : vx_Zq C n d B U H := ⟨va_Zq.narrow h.1 hAB, vx_L.narrow h.2 hAB⟩
theorem vx_Zqof {args : Array Value} {s : State} {C n d : String} {A : Nat → Prop} (hl : (Cond.laysStatic C n d).before args s = true) (hini : (Cond.initialized C).before args s = true) (h : (Cond.isRef (.static C n d)).before args s = true) (hA : ∀ a : Nat, a < s.heap.size → ¬ A a) : vx_Zq C n d A s s.heap := by
  refine ⟨va_Zqof hl hini h hA, ?_⟩
  obtain ⟨c, k, i, f, a, cell, h1, h2, h3, h4, h5, h6, h7, h8, h9⟩ := Cond.laysStatic_spec hl
  exact ⟨c, k, i, f, a, cell, h1, h2, h3, h4, h5, h6, h7, h8, h9, hA a (Array.getElem?_eq_some_iff.mp h5).1⟩
theorem vx_isRef {C n d : String} {v : Value} {A : Nat → Prop} {s : State} {args : Array Value} (h : va_Z C n d v A s s.heap) (hv : v.isRef = true) : (Cond.isRef (.static C n d)).before args s = true := by
  obtain ⟨cf, kf, fi, f, a, cell, h1, h2, h3, h4, h5, h6, h7, -⟩ := h
  have he : (Term.static C n d).eval args s none [] s = some v := by
    simp [Term.eval, State.fieldNamed?, h1, h2, h4, h5, h6, h7]
  simp only [Cond.before, Cond.holds, Cond.value, he]
  cases v <;> simp_all [Value.isRef]
theorem vx_isRefq {C n d : String} {A : Nat → Prop} {s : State} {args : Array Value} (h : va_Zq C n d A s s.heap) : (Cond.isRef (.static C n d)).before args s = true := by
  rcases h with h | ⟨t, h⟩
  · exact vx_isRef h rfl
  · exact vx_isRef h rfl
theorem vx_rebase {T : State} (X : Stand p l e R s m args below meth c T locs cells slots) {R' : Room} (hf : R'.frames ≤ R.frames) (hl : R'.locals ≤ R.locals) (hc : cells + R'.cells ≤ R.cells) (hs : slots + R'.slots ≤ R.slots) :
    Stand p l e R' ((T.setVm s.vm).setFrames (.invoking m args :: below)) m args below meth c T [] 0 0 := by
  have htop : (T.setVm s.vm).topJava?.isSome := X.here.top
  have hF : ((T.setVm s.vm).setFrames (.invoking m args :: below)).frames = .invoking m args :: below := State.frames_setFrames _ (State.cur_lt_of_top htop)
  obtain ⟨g₀, hg0⟩ := Option.isSome_iff_exists.mp htop
  obtain ⟨r, hr⟩ := State.topJava?_eq_some.mp hg0
  have hl9 : e.platform.stackLimits (T.setVm s.vm).me = e.platform.stackLimits s.me := X.limits
  have hb9 : (T.setVm s.vm).me.stackBytes = s.me.stackBytes := X.bytes
  refine ⟨X.admits, X.cas, X.clock, hF, ?_, X.hears, X.method, X.code, X.here, X.tail, X.warmed, ?_, ?_, ?_⟩
  · have h := X.room
    have hU : ((T.setVm s.vm).setFrames (.invoking m args :: below)).localsInUse = s.localsInUse := by
      rw [State.localsInUse_invoking hF (meth := meth) (c := c) X.method X.code, State.localsInUse_invoking X.frames X.method X.code]
    simp only [State.hasRoom, Bool.and_eq_true, decide_eq_true_eq] at h ⊢
    obtain ⟨⟨⟨⟨h1, h2, h3, h4, h5, h6⟩, h7⟩, h8⟩, h9⟩ := h
    rw [X.frames, List.length_cons] at h2 h3
    have q1 := X.heapSize
    have q2 := X.used
    simp only [hF, hU, List.length_cons, State.stackLimits_setFrames, State.stackBytes_setFrames, hl9, hb9]
    refine ⟨⟨⟨⟨by omega, by omega, by omega, by omega, by omega, h6⟩, ?_⟩, ?_⟩, X.book⟩
    · show T.heap.size + R'.cells ≤ e.platform.maxCells
      omega
    · show T.slotsUsed + R'.slots ≤ e.platform.maxSlots
      omega
  · rw [State.stackLimits_setFrames]; rfl
  · rw [State.stackBytes_setFrames]; rfl
  · refine ⟨?_, Nat.le_refl _, Nat.le_refl _, ?_, ?_, fun a c9 h9 => ⟨c9, h9, rfl, rfl, fun _ _ => rfl⟩⟩
    · obtain ⟨t, ht, -⟩ := State.frames_cons hr
      show T.setVm s.vm = { ((T.setVm s.vm).setFrames (.invoking m args :: below)).setFrames (T.setVm s.vm).frames with heap := T.heap, slotsUsed := T.slotsUsed }
      rw [State.setFrames_setFrames, State.setFrames_self ht]
      rfl
    · show T.slotsUsed = T.slotsUsed + ((T.heap.toList.drop T.heap.size).map (·.slots.size)).sum
      rw [List.drop_eq_nil_of_le (Nat.le_of_eq Array.length_toList)]
      rfl
    · show ((T.heap.toList.drop T.heap.size).map (·.slots.size)).sum ≤ 0
      rw [List.drop_eq_nil_of_le (Nat.le_of_eq Array.length_toList)]
      exact Nat.le_refl _
theorem vx_throw0 {cc : ByteArray} {pc : Nat} (hexec : p.tables.exec = Jvm.exec) (hb : c.code = cc) (hl : l.stackTraces = false) {own cls : String} {names : List String} {ik ic mc ms : Nat} {A : Nat → Prop}
    (hown : s.vm.findClass own = some m.cls) (hcls : Bundle.fit cls = true) (hnames : ∀ n ∈ names, Bundle.fit n = true)
    (hk : (Cond.classLink own ik cls).before args s = true) (hini : (Cond.initialized cls).before args s = true) (hat : ∀ w ∈ vx_at0 own ic cls names, w.before args s = true)
    (hgood : ∀ w ∈ Cond.classLink own ik cls :: Cond.initialized cls :: vx_at0 own ic cls names, vx_ot w = true)
    (hU : vx_Zq Bundle.tN "UNASSIGNED_STACK" Bundle.steD A s s.heap) (hN : vx_Zq Bundle.tN "SUPPRESSED_SENTINEL" Bundle.listD A s s.heap) (hS : va_S A s.heap H locs) (hsize : ls.size = c.maxLocals)
    (d0 : decode cc pc = .ok (.new ik, 3)) (d3 : decode cc (pc + 3) = .ok (.dup, 1)) (d4 : decode cc (pc + 4) = .ok (.invokespecial ic, 3)) (d7 : decode cc (pc + 7) = .ok (.athrow, 1))
    (hout : ∀ x ∈ c.exceptionTable.toList, covers x (pc + 7) = false)
    (hRframes : names.length + 3 < R.frames) (hRlocals : (rest.map fun v => v.category).sum + (13 * (names.length + 1) + 42) ≤ R.locals) (hRcells : cells + 1 ≤ R.cells) (hRslots : slots + 6 ≤ R.slots) (hlocks : meth.locks = false)
    (hx : ∀ t : State, s.vm.Alike t.vm → H.size ≤ t.heap.size → (∀ q : Nat, q < H.size → t.heap[q]? = H[q]?) → XC cls s t)
    (hf : ∀ z ∈ locs, free z.base) (hc : cells + 1 ≤ mc) (hs : slots + 6 ≤ ms) :
    W p l e R s m args below meth c H locs cells slots (vx_MQ below Qc XC args s mc ms free) (F0 m pc ls rest) := by
  intro T hT X
  have htr : e.platform.stackTraces = false := (show e.platform.stackTraces = l.stackTraces by rw [X.admits.platform]).trans hl
  have Y := vx_rebase X (R' := { frames := R.frames, locals := R.locals, cells := 1, slots := 6 }) (Nat.le_refl _) (Nat.le_refl _) hRcells hRslots
  obtain ⟨s', hA⟩ : ∃ z, z = (T.setVm s.vm).setFrames (.invoking m args :: below) := ⟨_, rfl⟩
  rw [← hA] at Y
  have hvm : s'.vm = s.vm := by rw [hA]; rfl
  have hhp : s'.heap = H := by rw [hA]; exact hT
  have hW0 : s.WarmedH s'.vm := by rw [hvm]; exact State.WarmedH.refl s
  have hat' : ∀ w ∈ vx_at0 own ic cls names, w.before args s' = true := fun w hw => vx_ot_at hW0 hvm.symm (hgood w (List.mem_cons_of_mem _ (List.mem_cons_of_mem _ hw))) (hat w hw)
  have hk' : (Cond.classLink own ik cls).before args s' = true := vx_ot_at hW0 hvm.symm (hgood _ List.mem_cons_self) hk
  have hini' : (Cond.initialized cls).before args s' = true := vx_ot_at hW0 hvm.symm (hgood _ (List.mem_cons_of_mem _ List.mem_cons_self)) hini
  have hU' : vx_Zq Bundle.tN "UNASSIGNED_STACK" Bundle.steD A s' s'.heap := by rw [hhp]; exact vx_Zq.moved hW0.alike (hU.kept hS.2.1)
  have hN' : vx_Zq Bundle.tN "SUPPRESSED_SENTINEL" Bundle.listD A s' s'.heap := by rw [hhp]; exact vx_Zq.moved hW0.alike (hN.kept hS.2.1)
  have h : ∀ w ∈ Bundle.ownAtoms0 own ic cls names, w.before args s' = true := vx_own hat' (vx_isRefq hU'.1) (vx_isRefq hN'.1) hU'.2.word hN'.2.word
  have hown' : s'.vm.findClass own = some m.cls := by rw [hvm]; exact hown
  have hins : (Cond.instantiable cls 6).before args s' = true := h _ (by simp [Bundle.ownAtoms0])
  obtain ⟨vm₁, cX, kX, hfX, hkX, -, -, X₁, st1⟩ := Y.newCold hexec (own := own) (C := cls) (index := ik) (n := 6) hown' hk' hins hini'
    (g := F0 m pc ls rest) rfl (by rw [hb]; exact d0) (Nat.le_refl _) (Nat.le_refl _)
  generalize hT1 : (T.setVm vm₁).pushCell { cls := cX, slots := kX.instanceTypes.map defaultValue, vm := .none } = T1 at X₁ st1
  have hcat : (Value.ref T.heap.size).category = 1 := rfl
  have hcellA : T1.heap[T.heap.size]? = some (freshCell cX kX) := by rw [← hT1]; exact State.heap_pushCell_size _ _
  have d3' : decode c.code (pc + 3) = .ok (.dup, 1) := by rw [hb]; exact d3
  obtain ⟨U, hsteps, hrun, hend, hW, hsame, ce, hce, hO⟩ := X₁.ctorThrow0 hexec htr (own := own) (cls := cls) (names := names) (ic := ic) hown' hcls hnames h (fun x hx => nomatch hx) hfX hkX hcellA (by rw [hhp, hT]; exact Nat.le_refl _)
    (g := { method := m, pc := pc + 4, locals := ls, stack := .ref T.heap.size :: .ref T.heap.size :: rest, locked := none }) rfl hsize rfl rfl (rest := rest) rfl
    (by rw [hb]; exact d4) (by rw [hb]; exact d7) hout hRframes (by simp only [List.map_cons, List.sum_cons, hcat]; omega) hlocks
  obtain ⟨f1, f2⟩ := vx_frame hsame
  rw [hhp] at f1 f2
  have hWs : s.WarmedH U.vm := State.WarmedH.trans hW0 hW
  have hcl : s.vm.findClass cls = some ce.cls := by
    have h9 := hO.cls
    rw [hvm] at h9
    exact h9
  have hall : s.sameButNew ({ U with vm := s.vm } : State) locs mc ms := by
    subst hA
    obtain ⟨e1, e2⟩ := hsame
    rw [State.setFrames_setFrames] at e1
    have h2 : (T.setVm s.vm).sameButNew ({ U with vm := s.vm } : State) [] (0 + 1) (0 + 6) := ⟨e1, e2⟩
    have h3 := X.same.trans h2
    rw [List.append_nil] at h3
    exact h3.mono hc hs
  refine ⟨U, ?_, .threw T.heap.size, hrun, hend, Or.inr ⟨T.heap.size, rfl, cls, ce, locs, hx U hWs.alike f1 (fun q hq => f2 q hq (fun z hz => nomatch hz)), hce, hO.vm, hcl, hWs, hall, hf⟩⟩
  refine st1 _ ?_
  show Steps p.tables e below (T1.setTop { method := m, pc := pc + 3, locals := ls, stack := .ref T.heap.size :: rest, locked := none }) _
  jvm_step X₁.here [X₁.here.top, hexec, d3', Value.category]
  exact hsteps
theorem vx_throwS {cc : ByteArray} {pc : Nat} (hexec : p.tables.exec = Jvm.exec) (hb : c.code = cc) (hl : l.stackTraces = false) {own cls text : String} {names : List String} {ik is ic mc ms sa : Nat} {A : Nat → Prop}
    (hown : s.vm.findClass own = some m.cls) (hcls : Bundle.fit cls = true) (hnames : ∀ n ∈ names, Bundle.fit n = true)
    (hk : (Cond.classLink own ik cls).before args s = true) (hini : (Cond.initialized cls).before args s = true) (hstr : vk_R own is text sa s) (hat : ∀ w ∈ vx_atS own ic cls names, w.before args s = true)
    (hgood : ∀ w ∈ Cond.classLink own ik cls :: Cond.initialized cls :: vx_atS own ic cls names, vx_ot w = true)
    (hU : vx_Zq Bundle.tN "UNASSIGNED_STACK" Bundle.steD A s s.heap) (hN : vx_Zq Bundle.tN "SUPPRESSED_SENTINEL" Bundle.listD A s s.heap) (hS : va_S A s.heap H locs) (hsize : ls.size = c.maxLocals)
    (d0 : decode cc pc = .ok (.new ik, 3)) (d3 : decode cc (pc + 3) = .ok (.dup, 1)) (d4 : decode cc (pc + 4) = .ok (.ldc is, 2)) (d6 : decode cc (pc + 6) = .ok (.invokespecial ic, 3)) (d9 : decode cc (pc + 9) = .ok (.athrow, 1))
    (hout : ∀ x ∈ c.exceptionTable.toList, covers x (pc + 9) = false)
    (hRframes : names.length + 3 < R.frames) (hRlocals : (rest.map fun v => v.category).sum + (13 * (names.length + 1) + 43) ≤ R.locals) (hRcells : cells + 1 ≤ R.cells) (hRslots : slots + 6 ≤ R.slots) (hlocks : meth.locks = false)
    (hx : ∀ t : State, s.vm.Alike t.vm → H.size ≤ t.heap.size → (∀ q : Nat, q < H.size → t.heap[q]? = H[q]?) → XC cls s t)
    (hf : ∀ z ∈ locs, free z.base) (hc : cells + 1 ≤ mc) (hs : slots + 6 ≤ ms) :
    W p l e R s m args below meth c H locs cells slots (vx_MQ below Qc XC args s mc ms free) (F0 m pc ls rest) := by
  intro T hT X
  have htr : e.platform.stackTraces = false := (show e.platform.stackTraces = l.stackTraces by rw [X.admits.platform]).trans hl
  have Y := vx_rebase X (R' := { frames := R.frames, locals := R.locals, cells := 1, slots := 6 }) (Nat.le_refl _) (Nat.le_refl _) hRcells hRslots
  obtain ⟨s', hA⟩ : ∃ z, z = (T.setVm s.vm).setFrames (.invoking m args :: below) := ⟨_, rfl⟩
  rw [← hA] at Y
  have hvm : s'.vm = s.vm := by rw [hA]; rfl
  have hhp : s'.heap = H := by rw [hA]; exact hT
  have hW0 : s.WarmedH s'.vm := by rw [hvm]; exact State.WarmedH.refl s
  have hat' : ∀ w ∈ vx_atS own ic cls names, w.before args s' = true := fun w hw => vx_ot_at hW0 hvm.symm (hgood w (List.mem_cons_of_mem _ (List.mem_cons_of_mem _ hw))) (hat w hw)
  have hk' : (Cond.classLink own ik cls).before args s' = true := vx_ot_at hW0 hvm.symm (hgood _ List.mem_cons_self) hk
  have hini' : (Cond.initialized cls).before args s' = true := vx_ot_at hW0 hvm.symm (hgood _ (List.mem_cons_of_mem _ List.mem_cons_self)) hini
  have hU' : vx_Zq Bundle.tN "UNASSIGNED_STACK" Bundle.steD A s' s'.heap := by rw [hhp]; exact vx_Zq.moved hW0.alike (hU.kept hS.2.1)
  have hN' : vx_Zq Bundle.tN "SUPPRESSED_SENTINEL" Bundle.listD A s' s'.heap := by rw [hhp]; exact vx_Zq.moved hW0.alike (hN.kept hS.2.1)
  have h : ∀ w ∈ Bundle.ownAtoms own ic cls names, w.before args s' = true := vx_own hat' (vx_isRefq hU'.1) (vx_isRefq hN'.1) hU'.2.word hN'.2.word
  have hown' : s'.vm.findClass own = some m.cls := by rw [hvm]; exact hown
  have hins : (Cond.instantiable cls 6).before args s' = true := h _ (by simp [Bundle.ownAtoms])
  obtain ⟨vm₁, cX, kX, hfX, hkX, -, -, X₁, st1⟩ := Y.newCold hexec (own := own) (C := cls) (index := ik) (n := 6) hown' hk' hins hini'
    (g := F0 m pc ls rest) rfl (by rw [hb]; exact d0) (Nat.le_refl _) (Nat.le_refl _)
  generalize hT1 : (T.setVm vm₁).pushCell { cls := cX, slots := kX.instanceTypes.map defaultValue, vm := .none } = T1 at X₁ st1
  have hcat : (Value.ref T.heap.size).category = 1 := rfl
  have hcellA : T1.heap[T.heap.size]? = some (freshCell cX kX) := by rw [← hT1]; exact State.heap_pushCell_size _ _
  have d3' : decode c.code (pc + 3) = .ok (.dup, 1) := by rw [hb]; exact d3
  have d4' : decode c.code (pc + 4) = .ok (.ldc is, 2) := by rw [hb]; exact d4
  have hstr' : vk_R own is text sa s' := vk_R.warm hW0 hstr
  obtain ⟨U, hsteps, hrun, hend, hW, hsame, ce, hce, hO⟩ := X₁.ctorThrowS hexec htr (own := own) (cls := cls) (names := names) (ic := ic) hown' hcls hnames h (fun x hx => nomatch hx) hfX hkX hcellA (by rw [hhp, hT]; exact Nat.le_refl _) (msg := .ref sa) rfl
    (g := { method := m, pc := pc + 6, locals := ls, stack := .ref sa :: .ref T.heap.size :: .ref T.heap.size :: rest, locked := none }) rfl hsize rfl rfl (rest := rest) rfl
    (by rw [hb]; exact d6) (by rw [hb]; exact d9) hout hRframes (by simp only [List.map_cons, List.sum_cons, hcat]; omega) hlocks
  obtain ⟨f1, f2⟩ := vx_frame hsame
  rw [hhp] at f1 f2
  have hWs : s.WarmedH U.vm := State.WarmedH.trans hW0 hW
  have hcl : s.vm.findClass cls = some ce.cls := by
    have h9 := hO.cls
    rw [hvm] at h9
    exact h9
  have hall : s.sameButNew ({ U with vm := s.vm } : State) locs mc ms := by
    subst hA
    obtain ⟨e1, e2⟩ := hsame
    rw [State.setFrames_setFrames] at e1
    have h2 : (T.setVm s.vm).sameButNew ({ U with vm := s.vm } : State) [] (0 + 1) (0 + 6) := ⟨e1, e2⟩
    have h3 := X.same.trans h2
    rw [List.append_nil] at h3
    exact h3.mono hc hs
  refine ⟨U, ?_, .threw T.heap.size, hrun, hend, Or.inr ⟨T.heap.size, rfl, cls, ce, locs, hx U hWs.alike f1 (fun q hq => f2 q hq (fun z hz => nomatch hz)), hce, hO.vm, hcl, hWs, hall, hf⟩⟩
  refine st1 _ ?_
  show Steps p.tables e below (T1.setTop { method := m, pc := pc + 3, locals := ls, stack := .ref T.heap.size :: rest, locked := none }) _
  jvm_step X₁.here [X₁.here.top, hexec, d3', Value.category]
  exact X₁.ldcString hexec (own := own) (text := text) (index := is) (a := sa) hown' hstr'.1 hstr'.2
    (g := { method := m, pc := pc + 4, locals := ls, stack := .ref T.heap.size :: .ref T.heap.size :: rest, locked := none }) rfl d4' _ hsteps
theorem vx_throwSW {cc : ByteArray} {pc : Nat} (hexec : p.tables.exec = Jvm.exec) (hb : c.code = cc) (hl : l.stackTraces = false) {own cls text : String} {names : List String} {ik is ic mc ms sa : Nat} {A : Nat → Prop}
    (hown : s.vm.findClass own = some m.cls) (hcls : Bundle.fit cls = true) (hnames : ∀ n ∈ names, Bundle.fit n = true)
    (hk : (Cond.classLink own ik cls).before args s = true) (hini : (Cond.initialized cls).before args s = true) (hstr : vk_R own is text sa s) (hat : ∀ w ∈ vx_atS own ic cls names, w.before args s = true)
    (hgood : ∀ w ∈ Cond.classLink own ik cls :: Cond.initialized cls :: vx_atS own ic cls names, vx_ot w = true)
    (hU : vx_Zq Bundle.tN "UNASSIGNED_STACK" Bundle.steD A s s.heap) (hN : vx_Zq Bundle.tN "SUPPRESSED_SENTINEL" Bundle.listD A s s.heap) (hS : va_S A s.heap H locs) (hsize : ls.size = c.maxLocals)
    (d0 : decode cc pc = .ok (.new ik, 3)) (d3 : decode cc (pc + 3) = .ok (.dup, 1)) (d4 : decode cc (pc + 4) = .ok (.ldc_w is, 3)) (d7 : decode cc (pc + 7) = .ok (.invokespecial ic, 3)) (d10 : decode cc (pc + 10) = .ok (.athrow, 1))
    (hout : ∀ x ∈ c.exceptionTable.toList, covers x (pc + 10) = false)
    (hRframes : names.length + 3 < R.frames) (hRlocals : (rest.map fun v => v.category).sum + (13 * (names.length + 1) + 43) ≤ R.locals) (hRcells : cells + 1 ≤ R.cells) (hRslots : slots + 6 ≤ R.slots) (hlocks : meth.locks = false)
    (hx : ∀ t : State, s.vm.Alike t.vm → H.size ≤ t.heap.size → (∀ q : Nat, q < H.size → t.heap[q]? = H[q]?) → XC cls s t)
    (hf : ∀ z ∈ locs, free z.base) (hc : cells + 1 ≤ mc) (hs : slots + 6 ≤ ms) :
    W p l e R s m args below meth c H locs cells slots (vx_MQ below Qc XC args s mc ms free) (F0 m pc ls rest) := by
  intro T hT X
  have htr : e.platform.stackTraces = false := (show e.platform.stackTraces = l.stackTraces by rw [X.admits.platform]).trans hl
  have Y := vx_rebase X (R' := { frames := R.frames, locals := R.locals, cells := 1, slots := 6 }) (Nat.le_refl _) (Nat.le_refl _) hRcells hRslots
  obtain ⟨s', hA⟩ : ∃ z, z = (T.setVm s.vm).setFrames (.invoking m args :: below) := ⟨_, rfl⟩
  rw [← hA] at Y
  have hvm : s'.vm = s.vm := by rw [hA]; rfl
  have hhp : s'.heap = H := by rw [hA]; exact hT
  have hW0 : s.WarmedH s'.vm := by rw [hvm]; exact State.WarmedH.refl s
  have hat' : ∀ w ∈ vx_atS own ic cls names, w.before args s' = true := fun w hw => vx_ot_at hW0 hvm.symm (hgood w (List.mem_cons_of_mem _ (List.mem_cons_of_mem _ hw))) (hat w hw)
  have hk' : (Cond.classLink own ik cls).before args s' = true := vx_ot_at hW0 hvm.symm (hgood _ List.mem_cons_self) hk
  have hini' : (Cond.initialized cls).before args s' = true := vx_ot_at hW0 hvm.symm (hgood _ (List.mem_cons_of_mem _ List.mem_cons_self)) hini
  have hU' : vx_Zq Bundle.tN "UNASSIGNED_STACK" Bundle.steD A s' s'.heap := by rw [hhp]; exact vx_Zq.moved hW0.alike (hU.kept hS.2.1)
  have hN' : vx_Zq Bundle.tN "SUPPRESSED_SENTINEL" Bundle.listD A s' s'.heap := by rw [hhp]; exact vx_Zq.moved hW0.alike (hN.kept hS.2.1)
  have h : ∀ w ∈ Bundle.ownAtoms own ic cls names, w.before args s' = true := vx_own hat' (vx_isRefq hU'.1) (vx_isRefq hN'.1) hU'.2.word hN'.2.word
  have hown' : s'.vm.findClass own = some m.cls := by rw [hvm]; exact hown
  have hins : (Cond.instantiable cls 6).before args s' = true := h _ (by simp [Bundle.ownAtoms])
  obtain ⟨vm₁, cX, kX, hfX, hkX, -, -, X₁, st1⟩ := Y.newCold hexec (own := own) (C := cls) (index := ik) (n := 6) hown' hk' hins hini'
    (g := F0 m pc ls rest) rfl (by rw [hb]; exact d0) (Nat.le_refl _) (Nat.le_refl _)
  generalize hT1 : (T.setVm vm₁).pushCell { cls := cX, slots := kX.instanceTypes.map defaultValue, vm := .none } = T1 at X₁ st1
  have hcat : (Value.ref T.heap.size).category = 1 := rfl
  have hcellA : T1.heap[T.heap.size]? = some (freshCell cX kX) := by rw [← hT1]; exact State.heap_pushCell_size _ _
  have d3' : decode c.code (pc + 3) = .ok (.dup, 1) := by rw [hb]; exact d3
  have d4' : decode c.code (pc + 4) = .ok (.ldc_w is, 3) := by rw [hb]; exact d4
  have hstr' : vk_R own is text sa s' := vk_R.warm hW0 hstr
  obtain ⟨U, hsteps, hrun, hend, hW, hsame, ce, hce, hO⟩ := X₁.ctorThrowS hexec htr (own := own) (cls := cls) (names := names) (ic := ic) hown' hcls hnames h (fun x hx => nomatch hx) hfX hkX hcellA (by rw [hhp, hT]; exact Nat.le_refl _) (msg := .ref sa) rfl
    (g := { method := m, pc := pc + 7, locals := ls, stack := .ref sa :: .ref T.heap.size :: .ref T.heap.size :: rest, locked := none }) rfl hsize rfl rfl (rest := rest) rfl
    (by rw [hb]; exact d7) (by rw [hb]; exact d10) hout hRframes (by simp only [List.map_cons, List.sum_cons, hcat]; omega) hlocks
  obtain ⟨f1, f2⟩ := vx_frame hsame
  rw [hhp] at f1 f2
  have hWs : s.WarmedH U.vm := State.WarmedH.trans hW0 hW
  have hcl : s.vm.findClass cls = some ce.cls := by
    have h9 := hO.cls
    rw [hvm] at h9
    exact h9
  have hall : s.sameButNew ({ U with vm := s.vm } : State) locs mc ms := by
    subst hA
    obtain ⟨e1, e2⟩ := hsame
    rw [State.setFrames_setFrames] at e1
    have h2 : (T.setVm s.vm).sameButNew ({ U with vm := s.vm } : State) [] (0 + 1) (0 + 6) := ⟨e1, e2⟩
    have h3 := X.same.trans h2
    rw [List.append_nil] at h3
    exact h3.mono hc hs
  refine ⟨U, ?_, .threw T.heap.size, hrun, hend, Or.inr ⟨T.heap.size, rfl, cls, ce, locs, hx U hWs.alike f1 (fun q hq => f2 q hq (fun z hz => nomatch hz)), hce, hO.vm, hcl, hWs, hall, hf⟩⟩
  refine st1 _ ?_
  show Steps p.tables e below (T1.setTop { method := m, pc := pc + 3, locals := ls, stack := .ref T.heap.size :: rest, locked := none }) _
  jvm_step X₁.here [X₁.here.top, hexec, d3', Value.category]
  exact X₁.ldcStringW hexec (own := own) (text := text) (index := is) (a := sa) hown' hstr'.1 hstr'.2
    (g := { method := m, pc := pc + 4, locals := ls, stack := .ref T.heap.size :: .ref T.heap.size :: rest, locked := none }) rfl d4' _ hsteps
end Ends
section Bodies
variable {l : Launch}
theorem vx_ofW {y : MethodName} {ws ws' : List Cond} {rm : Room} {Pc : Array Value → State → Prop} {Qc : Array Value → State → Outcome → State → Prop} {XC : String → State → State → Prop} {mc ms : Nat} {free : Addr → Prop} {cc : ByteArray} {maxL : Nat} {ret : Option FieldType}
    (hy : plainName y.cls = true) (hw : ws = Cond.code y cc maxL ret :: ws')
    (body : ∀ p e s m args below meth c s₁, BodyLoose p l y (headSpec ws rm) cc maxL ret e s m args below meth c s₁ → c.maxLocals = maxL → (∀ x ∈ c.exceptionTable.toList, False) → Pc args s →
      W p l e (headSpec ws rm).room s m args below meth c s.heap [] 0 0 (vx_MQ below Qc XC args s mc ms free) (entryFrame m args maxL)) : vx_Met l y ws rm Pc Qc XC mc ms free := by
  refine MetFree.of_bodyS (code := cc) (maxLocals := maxL) (ret := ret) hy ?_ ?_
  · intro args s m h hn
    obtain ⟨meth, c, h1, h2, h3, h4, h5, h6, -, -⟩ := Cond.code_spec hn (atoms_spec (ws := ws) h _ (by rw [hw]; exact List.mem_cons_self))
    exact ⟨meth, c, h1, h2, h3, h4, h5, h6⟩
  · intro p e s m args below meth c s₁ B hml hP _
    have hh0 : s₁.heap = s.heap := by rw [B.state]; rfl
    have ht : ∀ x ∈ c.exceptionTable.toList, False := by
      obtain ⟨meth9, c9, h1, h2, -, -, -, -, h7, -⟩ := Cond.code_spec B.named (atoms_spec (ws := ws) B.pre _ (by rw [hw]; exact List.mem_cons_self))
      cases Option.some.inj (h1.symm.trans B.method)
      cases Option.some.inj (h2.symm.trans (Stand.of_body B).code)
      intro x hx
      rw [Array.isEmpty_iff.mp h7] at hx
      cases hx
    obtain ⟨t, a1, o, b1, b2, b3⟩ := body p e s m args below meth c s₁ B hml ht hP s₁ hh0 (Stand.of_body B)
    exact ⟨t, o, a1, b1, b2, b3⟩
theorem vx_table {p : Program} {x y : MethodName} {S : Spec} {cc bytes : ByteArray} {maxL maxL' : Nat} {ret ret' : Option FieldType} {e : Env} {s s₁ : State} {m : MethodId} {args : Array Value} {below : List Frame} {meth : Method} {c : Code} {hh : List (Nat × Nat × Nat × Nat)}
    (B : BodyLoose p l y S cc maxL ret e s m args below meth c s₁) (h : (Cond.codeWith y bytes maxL' ret' hh).before args s = true) : c.exceptionTable.toList = tableOf hh := by
  obtain ⟨m9, meth9, c9, hn9, h1, h2, -, -, h6, -⟩ := Cond.codeWith_spec h
  cases Option.some.inj (hn9.symm.trans B.named)
  cases Option.some.inj (h1.symm.trans B.method)
  cases Option.some.inj (h2.symm.trans (Stand.of_body B).code)
  rw [← h6, table_eq]
end Bodies
end VXA
/-! ===== END ===== -/
/-! ===== BEGIN a static call of a method with an exception table ===== -/
section VXS
variable {p : Program} {l : Launch} {e : Env} {R : Room} {s : State} {m : MethodId} {args : Array Value} {below : List Frame} {meth : Method} {c : Code} {T : State} {H : Heap} {locs : List Loc} {cells slots : Nat}
abbrev vx_CSW (R : Room) (s : State) (args : Array Value) (own : String) (index : Nat) (y : MethodName) (bytes : ByteArray) (maxL : Nat) (ret : Option FieldType) (hh : List (Nat × Nat × Nat × Nat)) (ws : List Cond) (rm : Room) (mc ms n : Nat) : Prop :=
  (rm.cells = mc ∧ rm.slots = ms ∧ rm.frames + 1 ≤ R.frames ∧ 8 + (maxL + 11) + rm.locals ≤ R.locals ∧ (∀ w ∈ ws, ∀ (a' : Array Value) (U : State), s.WarmedH U.vm → w.before a' U = true) ∧ Cond.codeWith y bytes maxL ret hh ∈ ws) ∧
  (Cond.codeWith y bytes maxL ret hh).before args s = true ∧ (Cond.initialized y.cls).before args s = true ∧ (y.cls ≠ "java/lang/invoke/MethodHandle" ∧ y.cls ≠ "java/lang/invoke/VarHandle") ∧
  (∀ sig, parseMethodDescriptor y.desc = some sig → n = sig.parameters.length) ∧ (Cond.methodLink own index y).before args s = true ∧ (Cond.static y).before args s = true
theorem vx_cwSW {own : String} {index maxL mc ms : Nat} {y : MethodName} {bytes : ByteArray} {ret : Option FieldType} {hh : List (Nat × Nat × Nat × Nat)} {Ts ws ws' : List Cond} {rm : Room} (n : Nat) (ht : ∀ w ∈ Ts, w.before args s = true) (hT : GoodIn Ts (va_wsS own index y ws)) (hw : ws = Cond.codeWith y bytes maxL ret hh :: ws') (hrc : rm.cells = mc) (hrs : rm.slots = ms)
    (hd : y.cls ≠ "java/lang/invoke/MethodHandle" ∧ y.cls ≠ "java/lang/invoke/VarHandle" ∧ (parseMethodDescriptor y.desc).map (fun d => d.parameters.length) = some n) (hR : rm.frames + 1 ≤ R.frames ∧ 8 + (maxL + 11) + rm.locals ≤ R.locals) :
    vx_CSW R s args own index y bytes maxL ret hh ws rm mc ms n := by
  have ok : ∀ w ∈ va_wsS own index y ws, w.before args s = true := fun w h => ht w (hT w h).1
  have hG : GoodIn Ts ws := fun w h => hT w (by unfold va_wsS; exact List.mem_append_right _ h)
  have hc : Cond.codeWith y bytes maxL ret hh ∈ ws := by rw [hw]; exact List.mem_cons_self
  refine ⟨⟨hrc, hrs, hR.1, hR.2, pay_in ht hG, hc⟩, ht _ (hG _ hc).1, ok _ (by simp [va_wsS]), ⟨hd.1, hd.2.1⟩, fun sig h => ?_, ok _ (by simp [va_wsS]), ok _ (by simp [va_wsS])⟩
  have h2 := hd.2.2
  rw [h] at h2
  exact (Option.some.inj h2).symm
theorem vx_callSW (X : Stand p l e R s m args below meth c T locs cells slots) (hexec : p.tables.exec = Jvm.exec) {own : String} {index : Nat} {y : MethodName} {bytes : ByteArray} {maxL : Nat} {ret : Option FieldType} {hh : List (Nat × Nat × Nat × Nat)}
    (hown : s.vm.findClass own = some m.cls) (hlink : (Cond.methodLink own index y).before args s = true) (hstat : (Cond.static y).before args s = true) (hinit : (Cond.initialized y.cls).before args s = true)
    (hcode : (Cond.codeWith y bytes maxL ret hh).before args s = true) (hy : y.cls ≠ "java/lang/invoke/MethodHandle" ∧ y.cls ≠ "java/lang/invoke/VarHandle")
    {W9 : Nat} {Pre : Pt → Array Value → Prop} {Post : Pt → Array Value → Option Value → Pt → Prop} (hK : Back l R p e below s args y 3 W9 Pre Post)
    {g : JFrame} (hg : g.method = m) (hsize : g.locals.size = c.maxLocals) {argsL rest : List Value} (hlen : ∀ sig, parseMethodDescriptor y.desc = some sig → argsL.length = sig.parameters.length)
    (hstack : g.stack = argsL.reverse ++ rest) (hW : 2 * g.monitorRoom + (rest.map fun v => v.category).sum ≤ W9) (hdg : decode c.code g.pc = .ok (.invokestatic index, 3))
    (hpre : ∀ vm₁, s.WarmedH vm₁ → Pre ⟨T.setVm vm₁, locs, cells, slots⟩ argsL.toArray) :
    ∃ (v : Option Value) (vm₁ : Vm) (B : Pt), s.WarmedH vm₁ ∧ Stand p l e R s m args below meth c B.U B.locs B.cells B.slots ∧ Post ⟨T.setVm vm₁, locs, cells, slots⟩ argsL.toArray v B ∧
      ∀ target, Steps p.tables e below (B.U.setTop { g with pc := g.pc + 3, stack := v.toList ++ rest }) target → Steps p.tables e below (T.setTop g) target := by
  obtain ⟨mk, methM, cM, hnamed, hmethM, -, -, -, -, -, -, hsigM⟩ := Cond.codeWith_spec hcode
  have hstatic : methM.isStatic = true := Cond.static_spec hnamed hmethM hstat
  obtain ⟨kP, hkP, -⟩ := className_of_methodNamed hnamed
  have hinitP : kP.init = .initialized := Cond.initialized_spec (findClass_of_methodNamed hnamed) hkP hinit
  obtain ⟨vm₁, X₁, hstep₁⟩ := X.invokestatic hexec hown hlink hnamed hmethM hstatic hkP hinitP hy (g := g) hg (argsL := argsL) (rest := rest) (hlen _ hsigM) hstack hdg
  obtain ⟨v, B, X', hpost, hsteps⟩ := hK m meth c ⟨T.setVm vm₁, locs, cells, slots⟩ { g with stack := rest } (.invokestatic index) mk argsL.toArray X₁ hg hsize hdg hW (X₁.named hnamed) (hpre vm₁ X₁.warmed)
  exact ⟨v, vm₁, B, X₁.warmed, X', hpost, fun target h => hstep₁ _ fun acts => by rw [doInvoke_state]; exact hsteps.trans h⟩
theorem vx_runSW {y : MethodName} {bytes cc : ByteArray} {maxL nL mc ms n index : Nat} {ret : Option FieldType} {hh : List (Nat × Nat × Nat × Nat)} {ws : List Cond} {rm : Room} {Pc : Array Value → State → Prop} {Qc : Array Value → State → Outcome → State → Prop} {free : Addr → Prop} {Ts : List Cond} {own : String} {As rest : List Value} {g : JFrame}
    (S : CallFix p m c cc nL s args Ts own) (hM : Met l y ws rm Pc Qc mc ms free) (cw : vx_CSW R s args own index y bytes maxL ret hh ws rm mc ms n) (hp : PreS s H Pc As)
    (hg : g.method = m) (hn : As.length = n) (hsize : g.locals.size = nL) (hstack : g.stack = As.reverse ++ rest) (hW : 2 * g.monitorRoom + (rest.map fun v => v.category).sum ≤ 8) (hdg : decode cc g.pc = .ok (.invokestatic index, 3)) (hf : cells + mc ≤ R.cells ∧ slots + ms ≤ R.slots) :
    va_Run p l e R s m args below meth c H locs cells slots mc ms g rest (Qc As.toArray) (free) := by
  obtain ⟨⟨hrc, hrs, hfr, hlo, hws, hcw⟩, hcode, hini, hy, hlen, hl, hstt⟩ := cw
  have hK : Back l R p e below s args y 3 8 (PreOf R mc ms Pc) (PostOf Qc mc ms free) := va_backW (hh := hh) (bytes := bytes) (maxL := maxL) (ret := ret) hM hp.1 hrc hrs hfr hlo hws hcw (fun a' U hW => word_at hW (Or.inl (by first | rfl | simp [Cond.onTables, Cond.keeps, Cond.steady])) hini)
  obtain ⟨hx, hb, hml, ho, -⟩ := S
  intro T hT X
  obtain ⟨v, vm₁, ⟨U', l2, c2, s2⟩, hW₁, X', ⟨g', mk, t, L, e1, e2, hq, h1, hL, h2, h3⟩, st⟩ := vx_callSW X hx (hh := hh) (bytes := bytes) (maxL := maxL) (ret := ret) ho hl hstt hini hcode hy hK hg (hsize.trans hml.symm) (argsL := As) (rest := rest) (fun sig h => hn.trans (hlen sig h)) hstack hW (by rw [hb]; exact hdg)
    (fun vm₁ hW₁ => ⟨hf.1, hf.2, hp.2 (T.setVm vm₁) hT hW₁⟩)
  dsimp only [Pt.U, Pt.locs, Pt.cells, Pt.slots] at X' e1 e2 h1 h2 h3 st
  subst h1; subst h2; subst h3
  exact ⟨v, (T.setVm vm₁).calling g' mk As.toArray, t, U', L, hT, X', hL, e1, e2, hq, st⟩
theorem vx_lt {D : va_G} {cl : List vw_C} {ws : va_W} {H1 : Heap} (h : va_P D cl ws H1) {k : Nat} {q : Nat × va_E} (hk : ws[k]? = some q) : q.1 < H1.size := (h k q hk).lt
end VXS
/-! ===== END ===== -/
/-! ===== BEGIN methods with a table of their own: called by a name, returning or throwing ===== -/
section VXH
/-! vx_backW, vx_callVX, vx_callSX, vx_callVW, vx_runVW, vx_runVX, vx_runSX, vx_ofWH follow the same proofs as their sisters above (Free/Laws.lean, Shelf42/LK1.lean); vx_outP calls Shelf42/NT130.lean (outThrough). -/
section
variable {l : Launch} {R : Room} {p : Program} {e : Env} {below : List Frame} {s : State} {sargs : Array Value} {y : MethodName} {len W9 : Nat}
theorem vx_backW {ws : List Cond} {rm : Room} {Pc : Array Value → State → Prop} {Qc : Array Value → State → Outcome → State → Prop} {XC : String → State → State → Prop} {mc ms : Nat} {free : Addr → Prop} {bytes : ByteArray} {maxL : Nat} {ret : Option FieldType} {hh : List (Nat × Nat × Nat × Nat)}
    (hM : vx_Met l y ws rm Pc Qc XC mc ms free) (hblind : FrameBlind Pc) (hrc : rm.cells = mc) (hrs : rm.slots = ms)
    (hframes : rm.frames + 1 ≤ R.frames) (hlocals : W9 + (maxL + 11) + rm.locals ≤ R.locals)
    (hws : ∀ w ∈ ws, ∀ a' U, s.WarmedH U.vm → w.before a' U = true) (hcode : Cond.codeWith y bytes maxL ret hh ∈ ws) (hinit : ∀ a' U, s.WarmedH U.vm → (Cond.initialized y.cls).before a' U = true) :
    vx_Back l R p e below s sargs y len W9 (PreOf R mc ms Pc) (PostOf Qc mc ms free) (vx_Post XC mc ms free) := by
  intro m meth c A g ig mk a X hg hsize hdg hW hn hp
  have h1 : (headSpec ws rm).pre.before a A.U = true := atoms_intro fun w hw => hws w hw _ _ X.warmed
  have h2 : (Cond.codeWith y bytes maxL ret hh).before a A.U = true := hws _ hcode _ _ X.warmed
  have h3 : (Cond.initialized y.cls).before a A.U = true := hinit _ _ X.warmed
  have h4 : A.cells + (headSpec ws rm).room.cells ≤ R.cells := by rw [show (headSpec ws rm).room.cells = mc from hrc]; exact hp.1
  have h5 : A.slots + (headSpec ws rm).room.slots ≤ R.slots := by rw [show (headSpec ws rm).room.slots = ms from hrs]; exact hp.2.1
  have hPc : Pc a (A.U.calling g mk a) := hblind _ _ _ _ hp.2.2
  obtain ⟨U, Ls, c0, s0⟩ := A
  dsimp only [Pt.U, Pt.locs, Pt.cells, Pt.slots] at h1 h2 h3 h4 h5 X hn hPc ⊢
  obtain ⟨m9, methY, cY, hn9, hmY, hcY, -, hlY, -⟩ := Cond.codeWith_spec h2
  cases Option.some.inj (hn9.symm.trans hn)
  obtain ⟨kY, hkY, -⟩ := className_of_methodNamed hn
  have hinitY : kY.init = .initialized := Cond.initialized_spec (findClass_of_methodNamed hn) hkY h3
  have h : At U g.method c below := by rw [hg]; exact X.here
  have hlocals9 : W9 + (maxL + 11) + (headSpec ws rm).room.locals ≤ R.locals := hlocals
  have happ : (headSpec ws rm).appliesLoose y e.platform (U.calling g mk a) = true :=
    Spec.appliesLoose_calling (g := g) h hdg hn hkY hinitY
      (X.room_calling (g := g) (R' := (headSpec ws rm).room) hsize hmY hcY hframes (by rw [hlY]; omega) h4 h5) h1
  obtain ⟨mid, hmid⟩ := h.above
  have hfr : (U.setTop g).frames = (.java g :: mid) ++ below := by rw [State.frames_setTop' g h.top, hmid]; rfl
  obtain ⟨o, s₂, hsteps, -, hend, hq⟩ := Steps.callFree hM p X.admits X.cas X.clock (acts := []) hfr happ hPc trivial
  have hq' : vx_Q Qc XC mc ms free a (U.calling g mk a) o s₂ := hq
  rw [State.frames_setTop' g h.top] at hend
  obtain ⟨g₀, hg0⟩ := Option.isSome_iff_exists.mp h.top
  obtain ⟨r, hr⟩ := State.topJava?_eq_some.mp hg0
  have hr' : (({ U with heap := s₂.heap, slotsUsed := s₂.slotsUsed } : State).setVm s₂.vm).frames = .java g₀ :: r := hr
  rcases hq' with ⟨hqc, L, hfe, hL⟩ | ⟨q, rfl, E, ce, L, hx, hce, hcv, hcl, hW₂, hsm, hL⟩
  · obtain ⟨⟨v, rfl⟩, hW₂, e2, q2, q3, q4, q5, q6⟩ := id hfe
    have e3 : s₂ = ({ (U.calling g mk a).setFrames s₂.frames with heap := s₂.heap, slotsUsed := s₂.slotsUsed } : State).setVm s₂.vm := by
      have : s₂ = ({ s₂ with vm := (U.calling g mk a).vm } : State).setVm s₂.vm := rfl
      rw [e2] at this
      exact this
    obtain ⟨c₂, i₂, len₂, hc₂, hd₂, hf₂⟩ := hend
    have hW' : U.WarmedH s₂.vm := hW₂
    have hcc : c₂ = c := by
      have h1 : s₂.code? g.method = U.code? g.method := by
        rw [State.code?_eq, State.code?_eq, hW'.alike.method?]
      exact Option.some.inj (hc₂.symm.trans (h1.trans h.code))
    subst hcc
    have hlen : len₂ = len := by rw [hdg] at hd₂; cases hd₂; rfl
    subst hlen
    have hs₂ : s₂ = (({ U with heap := s₂.heap, slotsUsed := s₂.slotsUsed } : State).setVm s₂.vm).setTop { g with pc := g.pc + len₂, stack := v.toList ++ g.stack } := by
      refine e3.trans ?_
      rw [hf₂, State.calling_eq h.top, State.setFrames_setFrames, State.setTop_of_frames _ hr', hr]
      rfl
    have hsame : U.sameButNew ({ U with heap := s₂.heap, slotsUsed := s₂.slotsUsed } : State) L mc ms := by
      refine ⟨?_, q2, q3, q4, q5, q6⟩
      obtain ⟨t, ht, -⟩ := State.frames_cons hr
      show ({ U with heap := s₂.heap, slotsUsed := s₂.slotsUsed } : State) = { U.setFrames U.frames with heap := s₂.heap, slotsUsed := s₂.slotsUsed }
      rw [State.setFrames_self ht]
    subst hg
    refine Or.inl ⟨v, ⟨(({ U with heap := s₂.heap, slotsUsed := s₂.slotsUsed } : State).setVm s₂.vm), Ls ++ L, c0 + mc, s0 + ms⟩,
      ⟨X.admits, X.cas, X.clock, X.frames, X.room, X.hears, X.method, X.code, (X.here.setHeapUsed s₂.heap s₂.slotsUsed).setVm hW'.alike, X.tail, State.WarmedH.trans X.warmed hW', X.limits, X.bytes, X.same.trans (hsame.setVm s.vm)⟩,
      ⟨g, mk, s₂, L, rfl, rfl, hqc, rfl, hL, rfl, rfl⟩, ?_⟩
    show Steps p.tables e below _ ((({ U with heap := s₂.heap, slotsUsed := s₂.slotsUsed } : State).setVm s₂.vm).setTop { g with pc := g.pc + len₂, stack := v.toList ++ g.stack })
    rw [← hs₂]
    exact hsteps
  · obtain ⟨e2, q2, q3, q4, q5, q6⟩ := id hsm
    have e3 : s₂ = ({ (U.calling g mk a).setFrames s₂.frames with heap := s₂.heap, slotsUsed := s₂.slotsUsed } : State).setVm s₂.vm := by
      have : s₂ = ({ s₂ with vm := (U.calling g mk a).vm } : State).setVm s₂.vm := rfl
      rw [e2] at this
      exact this
    have hf₂ : s₂.frames = .throwing q :: .java g :: U.frames.tail := hend
    have hW' : U.WarmedH s₂.vm := hW₂
    have hs₂ : s₂ = ((({ U with heap := s₂.heap, slotsUsed := s₂.slotsUsed } : State).setVm s₂.vm).setTop g).pushFrame (.throwing q) := by
      refine e3.trans ?_
      rw [hf₂, State.calling_eq h.top, State.setFrames_setFrames, State.pushFrame, State.frames_setTop _ hr', State.setTop_of_frames _ hr', State.setFrames_setFrames, hr]
      rfl
    have hsame : U.sameButNew ({ U with heap := s₂.heap, slotsUsed := s₂.slotsUsed } : State) L mc ms := by
      refine ⟨?_, q2, q3, q4, q5, q6⟩
      obtain ⟨t, ht, -⟩ := State.frames_cons hr
      show ({ U with heap := s₂.heap, slotsUsed := s₂.slotsUsed } : State) = { U.setFrames U.frames with heap := s₂.heap, slotsUsed := s₂.slotsUsed }
      rw [State.setFrames_self ht]
    subst hg
    refine Or.inr ⟨q, ⟨(({ U with heap := s₂.heap, slotsUsed := s₂.slotsUsed } : State).setVm s₂.vm), Ls ++ L, c0 + mc, s0 + ms⟩,
      ⟨X.admits, X.cas, X.clock, X.frames, X.room, X.hears, X.method, X.code, (X.here.setHeapUsed s₂.heap s₂.slotsUsed).setVm hW'.alike, X.tail, State.WarmedH.trans X.warmed hW', X.limits, X.bytes, X.same.trans (hsame.setVm s.vm)⟩,
      ⟨g, mk, s₂, L, E, ce, rfl, rfl, hx, hce, hcv, hcl, rfl, hL, rfl, rfl⟩, ?_⟩
    show Steps p.tables e below _ (((({ U with heap := s₂.heap, slotsUsed := s₂.slotsUsed } : State).setVm s₂.vm).setTop g).pushFrame (.throwing q))
    rw [← hs₂]
    exact hsteps
end
variable {p : Program} {l : Launch} {e : Env} {R : Room} {s : State} {m : MethodId} {args : Array Value} {below : List Frame} {meth : Method} {c : Code} {T : State} {H : Heap} {locs : List Loc} {cells slots : Nat}
theorem vx_callVX (X : Stand p l e R s m args below meth c T locs cells slots) (hexec : p.tables.exec = Jvm.exec) {own C : String} {index : Nat} {y : MethodName} {bytes : ByteArray} {maxL : Nat} {ret : Option FieldType} {hh : List (Nat × Nat × Nat × Nat)}
    (hown : s.vm.findClass own = some m.cls) (hlink : (Cond.methodLink own index y).before args s = true) (hinst : (Cond.instanceMethod y).before args s = true) (hsel : (Cond.selects C y y).before args s = true)
    (hcode : (Cond.codeWith y bytes maxL ret hh).before args s = true) (hy : y.cls ≠ "java/lang/invoke/MethodHandle" ∧ y.cls ≠ "java/lang/invoke/VarHandle")
    {W9 : Nat} {Pre : Pt → Array Value → Prop} {Post : Pt → Array Value → Option Value → Pt → Prop} {PostX : Pt → Array Value → Addr → Pt → Prop} (hK : vx_Back l R p e below s args y 3 W9 Pre Post PostX)
    {b : Addr} {cellB : Cell} (hcell : T.heap[b]? = some cellB) (hobj : cellB.vm.isStatics = false) (hcls : s.vm.findClass C = some cellB.cls)
    {g : JFrame} (hg : g.method = m) (hsize : g.locals.size = c.maxLocals) {argsL rest : List Value} (hlen : ∀ sig, parseMethodDescriptor y.desc = some sig → argsL.length = sig.parameters.length)
    (hstack : g.stack = argsL.reverse ++ .ref b :: rest) (hW : 2 * g.monitorRoom + (rest.map fun v => v.category).sum ≤ W9) (hdg : decode c.code g.pc = .ok (.invokevirtual index, 3))
    (hpre : ∀ vm₁, s.WarmedH vm₁ → Pre ⟨T.setVm vm₁, locs, cells, slots⟩ (Value.ref b :: argsL).toArray) :
    (∃ (v : Option Value) (vm₁ : Vm) (B : Pt), s.WarmedH vm₁ ∧ Stand p l e R s m args below meth c B.U B.locs B.cells B.slots ∧ Post ⟨T.setVm vm₁, locs, cells, slots⟩ (Value.ref b :: argsL).toArray v B ∧
      ∀ target, Steps p.tables e below (B.U.setTop { g with pc := g.pc + 3, stack := v.toList ++ rest }) target → Steps p.tables e below (T.setTop g) target) ∨
    (∃ (q : Addr) (vm₁ : Vm) (B : Pt), s.WarmedH vm₁ ∧ Stand p l e R s m args below meth c B.U B.locs B.cells B.slots ∧ PostX ⟨T.setVm vm₁, locs, cells, slots⟩ (Value.ref b :: argsL).toArray q B ∧
      Steps p.tables e below (T.setTop g) ((B.U.setTop { g with stack := rest }).pushFrame (.throwing q))) := by
  obtain ⟨mk, methM, hnamed, hmethM, hstM, habM⟩ := Cond.instanceMethod_spec hinst
  obtain ⟨m8, methM', cM, hn8, hmethM', -, -, -, -, -, -, hsigM⟩ := Cond.codeWith_spec hcode
  cases Option.some.inj (hn8.symm.trans hnamed)
  cases hmethM.symm.trans hmethM'
  obtain ⟨c2, r2, m2, q1, q2, q3, q4, kP, hkP, hkPi⟩ := Cond.selects_spec hsel
  cases hcls.symm.trans q1
  cases (State.methodFound?_of_named hnamed hy).symm.trans q2
  cases hnamed.symm.trans q3
  have hselP : selectMethod e.platform s.vm cellB.cls mk = .method mk := by rw [Launch.admits_selectMethod X.admits]; exact q4
  obtain ⟨vm₁, X₁, hstep₁⟩ := X.invokevirtual hexec hown hlink hnamed hmethM hstM hkP hkPi hy (a := b) (cell := cellB) hcell
    (fun z h => by rw [h] at hobj; cases hobj) hselP hmethM habM hkP hkPi (g := g) hg (argsL := argsL) (rest := rest) (hlen _ hsigM) hstack hdg
  rcases hK m meth c ⟨T.setVm vm₁, locs, cells, slots⟩ { g with stack := rest } (.invokevirtual index) mk (Value.ref b :: argsL).toArray X₁ hg hsize hdg hW (X₁.named hnamed) (hpre vm₁ X₁.warmed) with ⟨v, B, X', hpost, hsteps⟩ | ⟨q, B, X', hpost, hsteps⟩
  · exact Or.inl ⟨v, vm₁, B, X₁.warmed, X', hpost, fun target h => hstep₁ _ fun acts => by rw [doInvoke_state]; exact hsteps.trans h⟩
  · exact Or.inr ⟨q, vm₁, B, X₁.warmed, X', hpost, hstep₁ _ fun acts => by rw [doInvoke_state]; exact hsteps⟩
theorem vx_callSX (X : Stand p l e R s m args below meth c T locs cells slots) (hexec : p.tables.exec = Jvm.exec) {own : String} {index : Nat} {y : MethodName} {bytes : ByteArray} {maxL : Nat} {ret : Option FieldType} {hh : List (Nat × Nat × Nat × Nat)}
    (hown : s.vm.findClass own = some m.cls) (hlink : (Cond.methodLink own index y).before args s = true) (hstat : (Cond.static y).before args s = true) (hinit : (Cond.initialized y.cls).before args s = true)
    (hcode : (Cond.codeWith y bytes maxL ret hh).before args s = true) (hy : y.cls ≠ "java/lang/invoke/MethodHandle" ∧ y.cls ≠ "java/lang/invoke/VarHandle")
    {W9 : Nat} {Pre : Pt → Array Value → Prop} {Post : Pt → Array Value → Option Value → Pt → Prop} {PostX : Pt → Array Value → Addr → Pt → Prop} (hK : vx_Back l R p e below s args y 3 W9 Pre Post PostX)
    {g : JFrame} (hg : g.method = m) (hsize : g.locals.size = c.maxLocals) {argsL rest : List Value} (hlen : ∀ sig, parseMethodDescriptor y.desc = some sig → argsL.length = sig.parameters.length)
    (hstack : g.stack = argsL.reverse ++ rest) (hW : 2 * g.monitorRoom + (rest.map fun v => v.category).sum ≤ W9) (hdg : decode c.code g.pc = .ok (.invokestatic index, 3))
    (hpre : ∀ vm₁, s.WarmedH vm₁ → Pre ⟨T.setVm vm₁, locs, cells, slots⟩ argsL.toArray) :
    (∃ (v : Option Value) (vm₁ : Vm) (B : Pt), s.WarmedH vm₁ ∧ Stand p l e R s m args below meth c B.U B.locs B.cells B.slots ∧ Post ⟨T.setVm vm₁, locs, cells, slots⟩ argsL.toArray v B ∧
      ∀ target, Steps p.tables e below (B.U.setTop { g with pc := g.pc + 3, stack := v.toList ++ rest }) target → Steps p.tables e below (T.setTop g) target) ∨
    (∃ (q : Addr) (vm₁ : Vm) (B : Pt), s.WarmedH vm₁ ∧ Stand p l e R s m args below meth c B.U B.locs B.cells B.slots ∧ PostX ⟨T.setVm vm₁, locs, cells, slots⟩ argsL.toArray q B ∧
      Steps p.tables e below (T.setTop g) ((B.U.setTop { g with stack := rest }).pushFrame (.throwing q))) := by
  obtain ⟨mk, methM, cM, hnamed, hmethM, -, -, -, -, -, -, hsigM⟩ := Cond.codeWith_spec hcode
  have hstatic : methM.isStatic = true := Cond.static_spec hnamed hmethM hstat
  obtain ⟨kP, hkP, -⟩ := className_of_methodNamed hnamed
  have hinitP : kP.init = .initialized := Cond.initialized_spec (findClass_of_methodNamed hnamed) hkP hinit
  obtain ⟨vm₁, X₁, hstep₁⟩ := X.invokestatic hexec hown hlink hnamed hmethM hstatic hkP hinitP hy (g := g) hg (argsL := argsL) (rest := rest) (hlen _ hsigM) hstack hdg
  rcases hK m meth c ⟨T.setVm vm₁, locs, cells, slots⟩ { g with stack := rest } (.invokestatic index) mk argsL.toArray X₁ hg hsize hdg hW (X₁.named hnamed) (hpre vm₁ X₁.warmed) with ⟨v, B, X', hpost, hsteps⟩ | ⟨q, B, X', hpost, hsteps⟩
  · exact Or.inl ⟨v, vm₁, B, X₁.warmed, X', hpost, fun target h => hstep₁ _ fun acts => by rw [doInvoke_state]; exact hsteps.trans h⟩
  · exact Or.inr ⟨q, vm₁, B, X₁.warmed, X', hpost, hstep₁ _ fun acts => by rw [doInvoke_state]; exact hsteps⟩
theorem vx_callVW (X : Stand p l e R s m args below meth c T locs cells slots) (hexec : p.tables.exec = Jvm.exec) {own C : String} {index : Nat} {y : MethodName} {bytes : ByteArray} {maxL : Nat} {ret : Option FieldType} {hh : List (Nat × Nat × Nat × Nat)}
    (hown : s.vm.findClass own = some m.cls) (hlink : (Cond.methodLink own index y).before args s = true) (hinst : (Cond.instanceMethod y).before args s = true) (hsel : (Cond.selects C y y).before args s = true)
    (hcode : (Cond.codeWith y bytes maxL ret hh).before args s = true) (hy : y.cls ≠ "java/lang/invoke/MethodHandle" ∧ y.cls ≠ "java/lang/invoke/VarHandle")
    {W9 : Nat} {Pre : Pt → Array Value → Prop} {Post : Pt → Array Value → Option Value → Pt → Prop} (hK : Back l R p e below s args y 3 W9 Pre Post)
    {b : Addr} {cellB : Cell} (hcell : T.heap[b]? = some cellB) (hobj : cellB.vm.isStatics = false) (hcls : s.vm.findClass C = some cellB.cls)
    {g : JFrame} (hg : g.method = m) (hsize : g.locals.size = c.maxLocals) {argsL rest : List Value} (hlen : ∀ sig, parseMethodDescriptor y.desc = some sig → argsL.length = sig.parameters.length)
    (hstack : g.stack = argsL.reverse ++ .ref b :: rest) (hW : 2 * g.monitorRoom + (rest.map fun v => v.category).sum ≤ W9) (hdg : decode c.code g.pc = .ok (.invokevirtual index, 3))
    (hpre : ∀ vm₁, s.WarmedH vm₁ → Pre ⟨T.setVm vm₁, locs, cells, slots⟩ (Value.ref b :: argsL).toArray) :
    ∃ (v : Option Value) (vm₁ : Vm) (B : Pt), s.WarmedH vm₁ ∧ Stand p l e R s m args below meth c B.U B.locs B.cells B.slots ∧ Post ⟨T.setVm vm₁, locs, cells, slots⟩ (Value.ref b :: argsL).toArray v B ∧
      ∀ target, Steps p.tables e below (B.U.setTop { g with pc := g.pc + 3, stack := v.toList ++ rest }) target → Steps p.tables e below (T.setTop g) target := by
  obtain ⟨mk, methM, hnamed, hmethM, hstM, habM⟩ := Cond.instanceMethod_spec hinst
  obtain ⟨m8, methM', cM, hn8, hmethM', -, -, -, -, -, -, hsigM⟩ := Cond.codeWith_spec hcode
  cases Option.some.inj (hn8.symm.trans hnamed)
  cases hmethM.symm.trans hmethM'
  obtain ⟨c2, r2, m2, q1, q2, q3, q4, kP, hkP, hkPi⟩ := Cond.selects_spec hsel
  cases hcls.symm.trans q1
  cases (State.methodFound?_of_named hnamed hy).symm.trans q2
  cases hnamed.symm.trans q3
  have hselP : selectMethod e.platform s.vm cellB.cls mk = .method mk := by rw [Launch.admits_selectMethod X.admits]; exact q4
  obtain ⟨vm₁, X₁, hstep₁⟩ := X.invokevirtual hexec hown hlink hnamed hmethM hstM hkP hkPi hy (a := b) (cell := cellB) hcell
    (fun z h => by rw [h] at hobj; cases hobj) hselP hmethM habM hkP hkPi (g := g) hg (argsL := argsL) (rest := rest) (hlen _ hsigM) hstack hdg
  obtain ⟨v, B, X', hpost, hsteps⟩ := hK m meth c ⟨T.setVm vm₁, locs, cells, slots⟩ { g with stack := rest } (.invokevirtual index) mk (Value.ref b :: argsL).toArray X₁ hg hsize hdg hW (X₁.named hnamed) (hpre vm₁ X₁.warmed)
  exact ⟨v, vm₁, B, X₁.warmed, X', hpost, fun target h => hstep₁ _ fun acts => by rw [doInvoke_state]; exact hsteps.trans h⟩
abbrev vx_CVW (R : Room) (s : State) (args : Array Value) (own C : String) (index : Nat) (y : MethodName) (bytes : ByteArray) (maxL : Nat) (ret : Option FieldType) (hh : List (Nat × Nat × Nat × Nat)) (ws : List Cond) (rm : Room) (mc ms n : Nat) : Prop :=
  (rm.cells = mc ∧ rm.slots = ms ∧ rm.frames + 1 ≤ R.frames ∧ 8 + (maxL + 11) + rm.locals ≤ R.locals ∧ (∀ w ∈ ws, ∀ (a' : Array Value) (U : State), s.WarmedH U.vm → w.before a' U = true) ∧ Cond.codeWith y bytes maxL ret hh ∈ ws) ∧
  (Cond.codeWith y bytes maxL ret hh).before args s = true ∧ (Cond.initialized y.cls).before args s = true ∧ (y.cls ≠ "java/lang/invoke/MethodHandle" ∧ y.cls ≠ "java/lang/invoke/VarHandle") ∧
  (∀ sig, parseMethodDescriptor y.desc = some sig → n = sig.parameters.length) ∧ (Cond.methodLink own index y).before args s = true ∧ (Cond.instanceMethod y).before args s = true ∧ (Cond.selects C y y).before args s = true
theorem vx_cwVW {own C : String} {index maxL mc ms : Nat} {y : MethodName} {bytes : ByteArray} {ret : Option FieldType} {hh : List (Nat × Nat × Nat × Nat)} {Ts ws ws' : List Cond} {rm : Room} (n : Nat) (ht : ∀ w ∈ Ts, w.before args s = true) (hT : GoodIn Ts (wsV own index C y ws)) (hw : ws = Cond.codeWith y bytes maxL ret hh :: ws') (hrc : rm.cells = mc) (hrs : rm.slots = ms)
    (hd : y.cls = C ∧ y.cls ≠ "java/lang/invoke/MethodHandle" ∧ y.cls ≠ "java/lang/invoke/VarHandle" ∧ (parseMethodDescriptor y.desc).map (fun d => d.parameters.length) = some n) (hR : rm.frames + 1 ≤ R.frames ∧ 8 + (maxL + 11) + rm.locals ≤ R.locals) :
    vx_CVW R s args own C index y bytes maxL ret hh ws rm mc ms n := by
  obtain ⟨hC, hd⟩ := hd
  subst hC
  have ok : ∀ w ∈ wsV own index y.cls y ws, w.before args s = true := fun w h => ht w (hT w h).1
  have hG : GoodIn Ts ws := fun w h => hT w (by unfold wsV; exact List.mem_append_right _ h)
  have hc : Cond.codeWith y bytes maxL ret hh ∈ ws := by rw [hw]; exact List.mem_cons_self
  refine ⟨⟨hrc, hrs, hR.1, hR.2, pay_in ht hG, hc⟩, ht _ (hG _ hc).1, ok _ (by simp [wsV]), ⟨hd.1, hd.2.1⟩, fun sig h => ?_, ok _ (by simp [wsV]), ok _ (by simp [wsV]), ok _ (by simp [wsV])⟩
  have h2 := hd.2.2
  rw [h] at h2
  exact (Option.some.inj h2).symm
theorem vx_runVW {y : MethodName} {bytes cc : ByteArray} {maxL nL mc ms n index : Nat} {ret : Option FieldType} {hh : List (Nat × Nat × Nat × Nat)} {ws : List Cond} {rm : Room} {Pc : Array Value → State → Prop} {Qc : Array Value → State → Outcome → State → Prop} {free : Addr → Prop} {Ts : List Cond} {own C : String} {b : Addr} {As rest : List Value} {g : JFrame}
    (S : CallFix p m c cc nL s args Ts own) (hM : Met l y ws rm Pc Qc mc ms free) (cw : vx_CVW R s args own C index y bytes maxL ret hh ws rm mc ms n) (hp : PreV s H C b Pc As)
    (hg : g.method = m) (hn : As.length = n) (hsize : g.locals.size = nL) (hstack : g.stack = As.reverse ++ .ref b :: rest) (hW : 2 * g.monitorRoom + (rest.map fun v => v.category).sum ≤ 8) (hdg : decode cc g.pc = .ok (.invokevirtual index, 3)) (hf : cells + mc ≤ R.cells ∧ slots + ms ≤ R.slots) :
    va_Run p l e R s m args below meth c H locs cells slots mc ms g rest (Qc (Value.ref b :: As).toArray) free := by
  obtain ⟨⟨hrc, hrs, hfr, hlo, hws, hcw⟩, hcode, hini, hy, hlen, hl, hin, hse⟩ := cw
  have hK : Back l R p e below s args y 3 8 (PreOf R mc ms Pc) (PostOf Qc mc ms free) := va_backW (hh := hh) (bytes := bytes) (maxL := maxL) (ret := ret) hM hp.1 hrc hrs hfr hlo hws hcw (fun a' U hW => word_at hW (Or.inl (by first | rfl | simp [Cond.onTables, Cond.keeps, Cond.steady])) hini)
  obtain ⟨hx, hb, hml, ho, -⟩ := S
  obtain ⟨-, ⟨cellB, hcB, hoB, hclB⟩, hPc⟩ := hp
  intro T hT X
  obtain ⟨v, vm₁, ⟨U', l2, c2, s2⟩, hW₁, X', ⟨g', mk, t, L, e1, e2, hq, h1, hL, h2, h3⟩, st⟩ := vx_callVW X hx (C := C) (hh := hh) (bytes := bytes) (maxL := maxL) (ret := ret) ho hl hin hse hcode hy hK (by rw [hT]; exact hcB) hoB hclB hg (hsize.trans hml.symm) (argsL := As) (rest := rest) (fun sig h => hn.trans (hlen sig h)) hstack hW (by rw [hb]; exact hdg)
    (fun vm₁ hW₁ => ⟨hf.1, hf.2, hPc (T.setVm vm₁) hT hW₁⟩)
  dsimp only [Pt.U, Pt.locs, Pt.cells, Pt.slots] at X' e1 e2 h1 h2 h3 st
  subst h1; subst h2; subst h3
  exact ⟨v, (T.setVm vm₁).calling g' mk (Value.ref b :: As).toArray, t, U', L, hT, X', hL, e1, e2, hq, st⟩
section
variable {y : MethodName} {bytes cc : ByteArray} {maxL nL mc ms n index : Nat} {ret : Option FieldType} {ws : List Cond} {rm : Room} {Pc : Array Value → State → Prop} {Qc : Array Value → State → Outcome → State → Prop} {XC : String → State → State → Prop} {free : Addr → Prop} {Ts : List Cond} {own C : String} {b : Addr} {As rest : List Value} {g : JFrame}
theorem vx_runVX {hh : List (Nat × Nat × Nat × Nat)} (S : CallFix p m c cc nL s args Ts own) (hM : vx_Met l y ws rm Pc Qc XC mc ms free) (cw : vx_CVW R s args own C index y bytes maxL ret hh ws rm mc ms n) (hp : PreV s H C b Pc As)
    (hg : g.method = m) (hn : As.length = n) (hsize : g.locals.size = nL) (hstack : g.stack = As.reverse ++ .ref b :: rest) (hW : 2 * g.monitorRoom + (rest.map fun v => v.category).sum ≤ 8) (hdg : decode cc g.pc = .ok (.invokevirtual index, 3)) (hf : cells + mc ≤ R.cells ∧ slots + ms ≤ R.slots) :
    vx_Run p l e R s m args below meth c H locs cells slots mc ms g rest (Qc (Value.ref b :: As).toArray) XC free := by
  obtain ⟨⟨hrc, hrs, hfr, hlo, hws, hcw⟩, hcode, hini, hy, hlen, hl, hin, hse⟩ := cw
  have hK : vx_Back l R p e below s args y 3 8 (PreOf R mc ms Pc) (PostOf Qc mc ms free) (vx_Post XC mc ms free) := vx_backW (hh := hh) (bytes := bytes) (maxL := maxL) (ret := ret) hM hp.1 hrc hrs hfr hlo hws hcw (fun a' U hW => word_at hW (Or.inl (by first | rfl | simp [Cond.onTables, Cond.keeps, Cond.steady])) hini)
  obtain ⟨hx, hb, hml, ho, -⟩ := S
  obtain ⟨-, ⟨cellB, hcB, hoB, hclB⟩, hPc⟩ := hp
  intro T hT X
  rcases vx_callVX X hx (C := C) (hh := hh) (bytes := bytes) (maxL := maxL) (ret := ret) ho hl hin hse hcode hy hK (by rw [hT]; exact hcB) hoB hclB hg (hsize.trans hml.symm) (argsL := As) (rest := rest) (fun sig h => hn.trans (hlen sig h)) hstack hW (by rw [hb]; exact hdg)
    (fun vm₁ hW₁ => ⟨hf.1, hf.2, hPc (T.setVm vm₁) hT hW₁⟩) with ⟨v, vm₁, ⟨U', l2, c2, s2⟩, hW₁, X', ⟨g', mk, t, L, e1, e2, hq, h1, hL, h2, h3⟩, st⟩ | ⟨q, vm₁, ⟨U', l2, c2, s2⟩, hW₁, X', ⟨g', mk, t, L, E, ce, e1, e2, hq, hce, hcv, hcl, h1, hL, h2, h3⟩, st⟩
  · dsimp only [Pt.U, Pt.locs, Pt.cells, Pt.slots] at X' e1 e2 h1 h2 h3 st
    subst h1; subst h2; subst h3
    exact Or.inl ⟨v, (T.setVm vm₁).calling g' mk (Value.ref b :: As).toArray, t, U', L, hT, X', hL, e1, e2, hq, st⟩
  · dsimp only [Pt.U, Pt.locs, Pt.cells, Pt.slots] at X' e1 e2 h1 h2 h3 st hcl
    subst h1; subst h2; subst h3
    exact Or.inr ⟨q, (T.setVm vm₁).calling g' mk (Value.ref b :: As).toArray, t, U', L, E, ce, hT, X', hL, e1, e2, hq, hce, hcv, vx_cls hW₁ hcl, st⟩
theorem vx_runSX {hh : List (Nat × Nat × Nat × Nat)} (S : CallFix p m c cc nL s args Ts own) (hM : vx_Met l y ws rm Pc Qc XC mc ms free) (cw : vx_CSW R s args own index y bytes maxL ret hh ws rm mc ms n) (hp : PreS s H Pc As)
    (hg : g.method = m) (hn : As.length = n) (hsize : g.locals.size = nL) (hstack : g.stack = As.reverse ++ rest) (hW : 2 * g.monitorRoom + (rest.map fun v => v.category).sum ≤ 8) (hdg : decode cc g.pc = .ok (.invokestatic index, 3)) (hf : cells + mc ≤ R.cells ∧ slots + ms ≤ R.slots) :
    vx_Run p l e R s m args below meth c H locs cells slots mc ms g rest (Qc As.toArray) XC free := by
  obtain ⟨⟨hrc, hrs, hfr, hlo, hws, hcw⟩, hcode, hini, hy, hlen, hl, hstt⟩ := cw
  have hK : vx_Back l R p e below s args y 3 8 (PreOf R mc ms Pc) (PostOf Qc mc ms free) (vx_Post XC mc ms free) := vx_backW (hh := hh) (bytes := bytes) (maxL := maxL) (ret := ret) hM hp.1 hrc hrs hfr hlo hws hcw (fun a' U hW => word_at hW (Or.inl (by first | rfl | simp [Cond.onTables, Cond.keeps, Cond.steady])) hini)
  obtain ⟨hx, hb, hml, ho, -⟩ := S
  intro T hT X
  rcases vx_callSX X hx (hh := hh) (bytes := bytes) (maxL := maxL) (ret := ret) ho hl hstt hini hcode hy hK hg (hsize.trans hml.symm) (argsL := As) (rest := rest) (fun sig h => hn.trans (hlen sig h)) hstack hW (by rw [hb]; exact hdg)
    (fun vm₁ hW₁ => ⟨hf.1, hf.2, hp.2 (T.setVm vm₁) hT hW₁⟩) with ⟨v, vm₁, ⟨U', l2, c2, s2⟩, hW₁, X', ⟨g', mk, t, L, e1, e2, hq, h1, hL, h2, h3⟩, st⟩ | ⟨q, vm₁, ⟨U', l2, c2, s2⟩, hW₁, X', ⟨g', mk, t, L, E, ce, e1, e2, hq, hce, hcv, hcl, h1, hL, h2, h3⟩, st⟩
  · dsimp only [Pt.U, Pt.locs, Pt.cells, Pt.slots] at X' e1 e2 h1 h2 h3 st
    subst h1; subst h2; subst h3
    exact Or.inl ⟨v, (T.setVm vm₁).calling g' mk As.toArray, t, U', L, hT, X', hL, e1, e2, hq, st⟩
  · dsimp only [Pt.U, Pt.locs, Pt.cells, Pt.slots] at X' e1 e2 h1 h2 h3 st hcl
    subst h1; subst h2; subst h3
    exact Or.inr ⟨q, (T.setVm vm₁).calling g' mk As.toArray, t, U', L, E, ce, hT, X', hL, e1, e2, hq, hce, hcv, vx_cls hW₁ hcl, st⟩
end
end VXH
theorem vx_ofWH {l : Launch} {y : MethodName} {ws ws' : List Cond} {rm : Room} {Pc : Array Value → State → Prop} {Qc : Array Value → State → Outcome → State → Prop} {XC : String → State → State → Prop} {mc ms : Nat} {free : Addr → Prop} {cc : ByteArray} {maxL : Nat} {ret : Option FieldType} {hh : List (Nat × Nat × Nat × Nat)}
    (hy : plainName y.cls = true) (hw : ws = Cond.codeWith y cc maxL ret hh :: ws')
    (body : ∀ p e s m args below meth c s₁, BodyLoose p l y (headSpec ws rm) cc maxL ret e s m args below meth c s₁ → c.maxLocals = maxL → Pc args s →
      W p l e (headSpec ws rm).room s m args below meth c s.heap [] 0 0 (vx_MQ below Qc XC args s mc ms free) (entryFrame m args maxL)) : vx_Met l y ws rm Pc Qc XC mc ms free := by
  refine MetFree.of_bodyS (code := cc) (maxLocals := maxL) (ret := ret) hy ?_ ?_
  · intro args s m h hn
    obtain ⟨m9, meth, c, hn9, h1, h2, h3, h4, -, h5, h6, -⟩ := Cond.codeWith_spec (atoms_spec (ws := ws) h _ (by rw [hw]; exact List.mem_cons_self))
    cases hn.symm.trans hn9
    exact ⟨meth, c, h1, h2, h3, h4, h5, h6⟩
  · intro p e s m args below meth c s₁ B hml hP _
    have hh0 : s₁.heap = s.heap := by rw [B.state]; rfl
    obtain ⟨t, a1, o, b1, b2, b3⟩ := body p e s m args below meth c s₁ B hml hP s₁ hh0 (Stand.of_body B)
    exact ⟨t, o, a1, b1, b2, b3⟩
/-! ===== END ===== -/
end
section
def RX0 : String := "PathHouse$Finder"
def TX0 : u_T := fun k => match k with
  | 0 => ("PathHouse$Finder", "rows", "[LPathHouse$Row;", true)
  | 1 => ("PathHouse$Finder", "root", "LPathHouse$Node;", false)
  | 2 => ("PathHouse$Finder", "result", "LPathHouse$Row;", false)
  | 3 => ("PathHouse$Finder", "looks", "I", false)
  | _ => ("PathHouse$Finder", "stopped", "I", false)
def tyX0 : Nat → FieldType := fun k => match k with
  | 0 => .array (.object "PathHouse$Row")
  | 1 => .object "PathHouse$Node"
  | 2 => .object "PathHouse$Row"
  | 3 => .int
  | _ => .int
theorem nmX0 : ∀ a, a < 5 → ∀ b, b < 5 → a ≠ b → (TX0 a).2.1 ≠ (TX0 b).2.1 := by decide +kernel
theorem tyX0_ok : ∀ k, k < 5 → parseFieldDescriptor (TX0 k).2.2.1 = some (tyX0 k) := by decide +kernel
abbrev cX0_init : ByteArray := prog_2_method_1_code
def yX0_init : MethodName := ⟨RX0, "<init>", "()V"⟩
abbrev cX0_forget : ByteArray := prog_2_method_2_code
def yX0_forget : MethodName := ⟨RX0, "forget", "()V"⟩
abbrev cX0_result : ByteArray := prog_2_method_3_code
def yX0_result : MethodName := ⟨RX0, "result", "(I)LPathHouse$Node;"⟩
abbrev cX0_results : ByteArray := prog_2_method_4_code
def yX0_results : MethodName := ⟨RX0, "results", "()I"⟩
abbrev cX0_run : ByteArray := prog_2_method_5_code
def yX0_run : MethodName := ⟨RX0, "run", "(LPathHouse$Path;LPathHouse$Node;)I"⟩
abbrev cX0_stop : ByteArray := prog_2_method_6_code
def yX0_stop : MethodName := ⟨RX0, "stop", "(I)V"⟩
abbrev cX0_look : ByteArray := prog_2_method_7_code
def yX0_look : MethodName := ⟨RX0, "look", "()V"⟩
abbrev cX0_put : ByteArray := prog_2_method_8_code
def yX0_put : MethodName := ⟨RX0, "put", "(LPathHouse$Node;LPathHouse$Row;)V"⟩
abbrev cX0_emptyRow : ByteArray := prog_2_method_9_code
def yX0_emptyRow : MethodName := ⟨RX0, "emptyRow", "(I)LPathHouse$Row;"⟩
abbrev cX0_select : ByteArray := prog_2_method_10_code
def yX0_select : MethodName := ⟨RX0, "select", "(LPathHouse$Path;LPathHouse$Node;I)LPathHouse$Row;"⟩
abbrev cX0_walk : ByteArray := prog_2_method_11_code
def yX0_walk : MethodName := ⟨RX0, "walk", "(LPathHouse$Segment;LPathHouse$Node;LPathHouse$Row;I)V"⟩
abbrev cX0_ask : ByteArray := prog_2_method_12_code
def yX0_ask : MethodName := ⟨RX0, "ask", "(LPathHouse$Segment;LPathHouse$Node;LPathHouse$Row;I)V"⟩
abbrev cX0_pick : ByteArray := prog_2_method_13_code
def yX0_pick : MethodName := ⟨RX0, "pick", "(LPathHouse$Selector;LPathHouse$Node;LPathHouse$Row;I)V"⟩
abbrev cX0_pickAll : ByteArray := prog_2_method_14_code
def yX0_pickAll : MethodName := ⟨RX0, "pickAll", "(LPathHouse$Node;LPathHouse$Row;)V"⟩
abbrev cX0_pickTrue : ByteArray := prog_2_method_15_code
def yX0_pickTrue : MethodName := ⟨RX0, "pickTrue", "(LPathHouse$Term;LPathHouse$Node;LPathHouse$Row;I)V"⟩
abbrev cX0_pickSlice : ByteArray := prog_2_method_16_code
def yX0_pickSlice : MethodName := ⟨RX0, "pickSlice", "(LPathHouse$Selector;LPathHouse$Node;LPathHouse$Row;)V"⟩
abbrev cX0_bounded : ByteArray := prog_2_method_17_code
def yX0_bounded : MethodName := ⟨RX0, "bounded", "(JIJJ)J"⟩
abbrev cX0_holds : ByteArray := prog_2_method_18_code
def yX0_holds : MethodName := ⟨RX0, "holds", "(LPathHouse$Term;LPathHouse$Node;I)Z"⟩
abbrev cX0_countOf : ByteArray := prog_2_method_19_code
def yX0_countOf : MethodName := ⟨RX0, "countOf", "(LPathHouse$Term;LPathHouse$Node;I)I"⟩
abbrev cX0_onlyOf : ByteArray := prog_2_method_20_code
def yX0_onlyOf : MethodName := ⟨RX0, "onlyOf", "(LPathHouse$Term;LPathHouse$Node;I)LPathHouse$Node;"⟩
abbrev cX0_valueOf : ByteArray := prog_2_method_21_code
def yX0_valueOf : MethodName := ⟨RX0, "valueOf", "(LPathHouse$Term;LPathHouse$Node;I)LPathHouse$Node;"⟩
abbrev cX0_reckoned : ByteArray := prog_2_method_22_code
def yX0_reckoned : MethodName := ⟨RX0, "reckoned", "(ILPathHouse$Node;)LPathHouse$Node;"⟩
abbrev cX0_lengthOf : ByteArray := prog_2_method_23_code
def yX0_lengthOf : MethodName := ⟨RX0, "lengthOf", "(LPathHouse$Node;LPathHouse$Node;)LPathHouse$Node;"⟩
abbrev cX0_compares : ByteArray := prog_2_method_24_code
def yX0_compares : MethodName := ⟨RX0, "compares", "(ILPathHouse$Node;LPathHouse$Node;)Z"⟩
abbrev cX0_isLess : ByteArray := prog_2_method_25_code
def yX0_isLess : MethodName := ⟨RX0, "isLess", "(LPathHouse$Node;LPathHouse$Node;)Z"⟩
abbrev cX0_isEqual : ByteArray := prog_2_method_26_code
def yX0_isEqual : MethodName := ⟨RX0, "isEqual", "(LPathHouse$Node;LPathHouse$Node;I)Z"⟩
def RX1 : String := "PathHouse$Node"
def TX1 : u_T := fun k => match k with
  | 0 => ("PathHouse$Node", "kind", "I", true)
  | 1 => ("PathHouse$Node", "parent", "LPathHouse$Node;", true)
  | 2 => ("PathHouse$Node", "depth", "I", true)
  | 3 => ("PathHouse$Node", "order", "I", true)
  | 4 => ("PathHouse$Node", "kids", "Ljava/util/ArrayList;", true)
  | 5 => ("PathHouse$Node", "whole", "J", false)
  | 6 => ("PathHouse$Node", "chars", "[I", false)
  | 7 => ("PathHouse$Node", "name", "[I", false)
  | 8 => ("PathHouse$Node", "index", "I", false)
  | 9 => ("PathHouse$Node", "last", "I", false)
  | _ => ("PathHouse$Node", "next", "LPathHouse$Node;", false)
def tyX1 : Nat → FieldType := fun k => match k with
  | 0 => .int
  | 1 => .object "PathHouse$Node"
  | 2 => .int
  | 3 => .int
  | 4 => .object "java/util/ArrayList"
  | 5 => .long
  | 6 => .array .int
  | 7 => .array .int
  | 8 => .int
  | 9 => .int
  | _ => .object "PathHouse$Node"
theorem nmX1 : ∀ a, a < 11 → ∀ b, b < 11 → a ≠ b → (TX1 a).2.1 ≠ (TX1 b).2.1 := by decide +kernel
theorem tyX1_ok : ∀ k, k < 11 → parseFieldDescriptor (TX1 k).2.2.1 = some (tyX1 k) := by decide +kernel
abbrev cX1_init : ByteArray := prog_3_method_1_code
def yX1_init : MethodName := ⟨RX1, "<init>", "(ILPathHouse$Node;II)V"⟩
abbrev cX1_kidCount : ByteArray := prog_3_method_2_code
def yX1_kidCount : MethodName := ⟨RX1, "kidCount", "()I"⟩
abbrev cX1_kid : ByteArray := prog_3_method_3_code
def yX1_kid : MethodName := ⟨RX1, "kid", "(J)LPathHouse$Node;"⟩
abbrev cX1_size : ByteArray := prog_3_method_4_code
def yX1_size : MethodName := ⟨RX1, "size", "()I"⟩
abbrev cX1_adopt : ByteArray := prog_3_method_5_code
def yX1_adopt : MethodName := ⟨RX1, "adopt", "(LPathHouse$Node;[I)V"⟩
abbrev cX1_member : ByteArray := prog_3_method_6_code
def yX1_member : MethodName := ⟨RX1, "member", "([I)LPathHouse$Node;"⟩
abbrev cX1_element : ByteArray := prog_3_method_7_code
def yX1_element : MethodName := ⟨RX1, "element", "(J)LPathHouse$Node;"⟩
abbrev cX1_deepest : ByteArray := prog_3_method_8_code
def yX1_deepest : MethodName := ⟨RX1, "deepest", "()I"⟩
def RX2 : String := "PathHouse$Out"
def TX2 : u_T := fun k => match k with
  | 0 => ("PathHouse$Out", "bytes", "[B", true)
  | _ => ("PathHouse$Out", "count", "I", false)
def tyX2 : Nat → FieldType := fun k => match k with
  | 0 => .array .byte
  | _ => .int
theorem nmX2 : ∀ a, a < 2 → ∀ b, b < 2 → a ≠ b → (TX2 a).2.1 ≠ (TX2 b).2.1 := by decide +kernel
theorem tyX2_ok : ∀ k, k < 2 → parseFieldDescriptor (TX2 k).2.2.1 = some (tyX2 k) := by decide +kernel
abbrev cX2_init : ByteArray := prog_4_method_1_code
def yX2_init : MethodName := ⟨RX2, "<init>", "()V"⟩
abbrev cX2_clear : ByteArray := prog_4_method_2_code
def yX2_clear : MethodName := ⟨RX2, "clear", "()V"⟩
abbrev cX2_has : ByteArray := prog_4_method_3_code
def yX2_has : MethodName := ⟨RX2, "has", "(I)Z"⟩
abbrev cX2_get : ByteArray := prog_4_method_4_code
def yX2_get : MethodName := ⟨RX2, "get", "(I)I"⟩
abbrev cX2_put : ByteArray := prog_4_method_5_code
def yX2_put : MethodName := ⟨RX2, "put", "(I)V"⟩
abbrev cX2_putWord : ByteArray := prog_4_method_6_code
def yX2_putWord : MethodName := ⟨RX2, "putWord", "(Ljava/lang/String;)V"⟩
abbrev cX2_putWhole : ByteArray := prog_4_method_7_code
def yX2_putWhole : MethodName := ⟨RX2, "putWhole", "(J)V"⟩
abbrev cX2_putQuoted : ByteArray := prog_4_method_8_code
def yX2_putQuoted : MethodName := ⟨RX2, "putQuoted", "([II)V"⟩
abbrev cX2_putControl : ByteArray := prog_4_method_9_code
def yX2_putControl : MethodName := ⟨RX2, "putControl", "(I)V"⟩
abbrev cX2_putCode : ByteArray := prog_4_method_10_code
def yX2_putCode : MethodName := ⟨RX2, "putCode", "(I)V"⟩
abbrev cX2_putSteps : ByteArray := prog_4_method_11_code
def yX2_putSteps : MethodName := ⟨RX2, "putSteps", "(LPathHouse$Node;I)V"⟩
abbrev cX2_putValue : ByteArray := prog_4_method_12_code
def yX2_putValue : MethodName := ⟨RX2, "putValue", "(LPathHouse$Node;I)V"⟩
abbrev cX2_putKids : ByteArray := prog_4_method_13_code
def yX2_putKids : MethodName := ⟨RX2, "putKids", "(LPathHouse$Node;I)V"⟩
def RX3 : String := "PathHouse$Path"
def TX3 : u_T := fun k => match k with
  | 0 => ("PathHouse$Path", "fromRoot", "Z", true)
  | 1 => ("PathHouse$Path", "segments", "Ljava/util/ArrayList;", true)
  | _ => ("PathHouse$Path", "singular", "Z", false)
def tyX3 : Nat → FieldType := fun k => match k with
  | 0 => .boolean
  | 1 => .object "java/util/ArrayList"
  | _ => .boolean
theorem nmX3 : ∀ a, a < 3 → ∀ b, b < 3 → a ≠ b → (TX3 a).2.1 ≠ (TX3 b).2.1 := by decide +kernel
theorem tyX3_ok : ∀ k, k < 3 → parseFieldDescriptor (TX3 k).2.2.1 = some (tyX3 k) := by decide +kernel
abbrev cX3_init : ByteArray := prog_5_method_1_code
def yX3_init : MethodName := ⟨RX3, "<init>", "(Z)V"⟩
def RX4 : String := "PathHouse$QueryReader"
def TX4 : u_T := fun k => match k with
  | 0 => ("PathHouse$QueryReader", "in", "LPathHouse$Reader;", true)
  | 1 => ("PathHouse$QueryReader", "open", "I", false)
  | 2 => ("PathHouse$QueryReader", "laterFault", "I", false)
  | _ => ("PathHouse$QueryReader", "laterPlace", "I", false)
def tyX4 : Nat → FieldType := fun k => match k with
  | 0 => .object "PathHouse$Reader"
  | 1 => .int
  | 2 => .int
  | _ => .int
theorem nmX4 : ∀ a, a < 4 → ∀ b, b < 4 → a ≠ b → (TX4 a).2.1 ≠ (TX4 b).2.1 := by decide +kernel
theorem tyX4_ok : ∀ k, k < 4 → parseFieldDescriptor (TX4 k).2.2.1 = some (tyX4 k) := by decide +kernel
abbrev cX4_init : ByteArray := prog_6_method_1_code
def yX4_init : MethodName := ⟨RX4, "<init>", "(LPathHouse$Reader;)V"⟩
abbrev cX4_whole : ByteArray := prog_6_method_2_code
def yX4_whole : MethodName := ⟨RX4, "whole", "()LPathHouse$Path;"⟩
abbrev cX4_note : ByteArray := prog_6_method_3_code
def yX4_note : MethodName := ⟨RX4, "note", "(II)V"⟩
abbrev cX4_enter : ByteArray := prog_6_method_4_code
def yX4_enter : MethodName := ⟨RX4, "enter", "()V"⟩
abbrev cX4_readInt : ByteArray := prog_6_method_5_code
def yX4_readInt : MethodName := ⟨RX4, "readInt", "(Z)J"⟩
abbrev cX4_atInt : ByteArray := prog_6_method_6_code
def yX4_atInt : MethodName := ⟨RX4, "atInt", "()Z"⟩
abbrev cX4_atString : ByteArray := prog_6_method_7_code
def yX4_atString : MethodName := ⟨RX4, "atString", "()Z"⟩
abbrev cX4_readSegments : ByteArray := prog_6_method_8_code
def yX4_readSegments : MethodName := ⟨RX4, "readSegments", "(LPathHouse$Path;Z)I"⟩
abbrev cX4_readSegment : ByteArray := prog_6_method_9_code
def yX4_readSegment : MethodName := ⟨RX4, "readSegment", "(LPathHouse$Path;Z)V"⟩
abbrev cX4_readDotted : ByteArray := prog_6_method_10_code
def yX4_readDotted : MethodName := ⟨RX4, "readDotted", "(LPathHouse$Segment;Z)Z"⟩
abbrev cX4_readBrackets : ByteArray := prog_6_method_11_code
def yX4_readBrackets : MethodName := ⟨RX4, "readBrackets", "(LPathHouse$Segment;Z)Z"⟩
abbrev cX4_readSelector : ByteArray := prog_6_method_12_code
def yX4_readSelector : MethodName := ⟨RX4, "readSelector", "(Z)LPathHouse$Selector;"⟩
abbrev cX4_readIndexed : ByteArray := prog_6_method_13_code
def yX4_readIndexed : MethodName := ⟨RX4, "readIndexed", "(Z)LPathHouse$Selector;"⟩
abbrev cX4_readSlice : ByteArray := prog_6_method_14_code
def yX4_readSlice : MethodName := ⟨RX4, "readSlice", "(ZJ)LPathHouse$Selector;"⟩
abbrev cX4_readFilter : ByteArray := prog_6_method_15_code
def yX4_readFilter : MethodName := ⟨RX4, "readFilter", "()LPathHouse$Selector;"⟩
abbrev cX4_readOr : ByteArray := prog_6_method_16_code
def yX4_readOr : MethodName := ⟨RX4, "readOr", "(LPathHouse$Term;)LPathHouse$Term;"⟩
abbrev cX4_readAnd : ByteArray := prog_6_method_17_code
def yX4_readAnd : MethodName := ⟨RX4, "readAnd", "(LPathHouse$Term;)LPathHouse$Term;"⟩
abbrev cX4_takesTwice : ByteArray := prog_6_method_18_code
def yX4_takesTwice : MethodName := ⟨RX4, "takesTwice", "(I)Z"⟩
abbrev cX4_readBasic : ByteArray := prog_6_method_19_code
def yX4_readBasic : MethodName := ⟨RX4, "readBasic", "()LPathHouse$Term;"⟩
abbrev cX4_readGroup : ByteArray := prog_6_method_20_code
def yX4_readGroup : MethodName := ⟨RX4, "readGroup", "()LPathHouse$Term;"⟩
abbrev cX4_readNegatedTest : ByteArray := prog_6_method_21_code
def yX4_readNegatedTest : MethodName := ⟨RX4, "readNegatedTest", "()LPathHouse$Term;"⟩
abbrev cX4_readBasicFrom : ByteArray := prog_6_method_22_code
def yX4_readBasicFrom : MethodName := ⟨RX4, "readBasicFrom", "(LPathHouse$Term;)LPathHouse$Term;"⟩
abbrev cX4_asTest : ByteArray := prog_6_method_23_code
def yX4_asTest : MethodName := ⟨RX4, "asTest", "(LPathHouse$Term;)LPathHouse$Term;"⟩
abbrev cX4_atOperator : ByteArray := prog_6_method_24_code
def yX4_atOperator : MethodName := ⟨RX4, "atOperator", "()Z"⟩
abbrev cX4_readComparison : ByteArray := prog_6_method_25_code
def yX4_readComparison : MethodName := ⟨RX4, "readComparison", "(LPathHouse$Term;)LPathHouse$Term;"⟩
abbrev cX4_readOperator : ByteArray := prog_6_method_26_code
def yX4_readOperator : MethodName := ⟨RX4, "readOperator", "()I"⟩
abbrev cX4_readOperand : ByteArray := prog_6_method_27_code
def yX4_readOperand : MethodName := ⟨RX4, "readOperand", "(Z)LPathHouse$Term;"⟩
abbrev cX4_literal : ByteArray := prog_6_method_28_code
def yX4_literal : MethodName := ⟨RX4, "literal", "(II)LPathHouse$Term;"⟩
abbrev cX4_readWord : ByteArray := prog_6_method_29_code
def yX4_readWord : MethodName := ⟨RX4, "readWord", "()LPathHouse$Term;"⟩
abbrev cX4_readFunction : ByteArray := prog_6_method_30_code
def yX4_readFunction : MethodName := ⟨RX4, "readFunction", "(I)LPathHouse$Term;"⟩
abbrev cX4_functionNamed : ByteArray := prog_6_method_31_code
def yX4_functionNamed : MethodName := ⟨RX4, "functionNamed", "(I)I"⟩
abbrev cX4_readArgument : ByteArray := prog_6_method_32_code
def yX4_readArgument : MethodName := ⟨RX4, "readArgument", "()LPathHouse$Term;"⟩
abbrev cX4_goesOnAsOr : ByteArray := prog_6_method_33_code
def yX4_goesOnAsOr : MethodName := ⟨RX4, "goesOnAsOr", "(LPathHouse$Term;)Z"⟩
def RX5 : String := "PathHouse$Reader"
def TX5 : u_T := fun k => match k with
  | 0 => ("PathHouse$Reader", "bytes", "[B", true)
  | 1 => ("PathHouse$Reader", "chars", "[I", true)
  | 2 => ("PathHouse$Reader", "charCount", "I", false)
  | 3 => ("PathHouse$Reader", "end", "I", false)
  | 4 => ("PathHouse$Reader", "at", "I", false)
  | 5 => ("PathHouse$Reader", "fault", "I", false)
  | _ => ("PathHouse$Reader", "place", "I", false)
def tyX5 : Nat → FieldType := fun k => match k with
  | 0 => .array .byte
  | 1 => .array .int
  | 2 => .int
  | 3 => .int
  | 4 => .int
  | 5 => .int
  | _ => .int
theorem nmX5 : ∀ a, a < 7 → ∀ b, b < 7 → a ≠ b → (TX5 a).2.1 ≠ (TX5 b).2.1 := by decide +kernel
theorem tyX5_ok : ∀ k, k < 7 → parseFieldDescriptor (TX5 k).2.2.1 = some (tyX5 k) := by decide +kernel
abbrev cX5_init : ByteArray := prog_7_method_1_code
def yX5_init : MethodName := ⟨RX5, "<init>", "([B)V"⟩
abbrev cX5_begin : ByteArray := prog_7_method_2_code
def yX5_begin : MethodName := ⟨RX5, "begin", "(I)V"⟩
abbrev cX5_fail : ByteArray := prog_7_method_3_code
def yX5_fail : MethodName := ⟨RX5, "fail", "(II)V"⟩
abbrev cX5_byteAt : ByteArray := prog_7_method_4_code
def yX5_byteAt : MethodName := ⟨RX5, "byteAt", "(I)I"⟩
abbrev cX5_here : ByteArray := prog_7_method_5_code
def yX5_here : MethodName := ⟨RX5, "here", "()I"⟩
abbrev cX5_isBlank : ByteArray := prog_7_method_6_code
def yX5_isBlank : MethodName := ⟨RX5, "isBlank", "()Z"⟩
abbrev cX5_skipBlanks : ByteArray := prog_7_method_7_code
def yX5_skipBlanks : MethodName := ⟨RX5, "skipBlanks", "()V"⟩
abbrev cX5_expect : ByteArray := prog_7_method_8_code
def yX5_expect : MethodName := ⟨RX5, "expect", "(I)V"⟩
abbrev cX5_expectWord : ByteArray := prog_7_method_9_code
def yX5_expectWord : MethodName := ⟨RX5, "expectWord", "(Ljava/lang/String;)V"⟩
abbrev cX5_isWord : ByteArray := prog_7_method_10_code
def yX5_isWord : MethodName := ⟨RX5, "isWord", "(IILjava/lang/String;)Z"⟩
abbrev cX5_takeComma : ByteArray := prog_7_method_11_code
def yX5_takeComma : MethodName := ⟨RX5, "takeComma", "()Z"⟩
abbrev cX5_wholeNumber : ByteArray := prog_7_method_12_code
def yX5_wholeNumber : MethodName := ⟨RX5, "wholeNumber", "(Z)J"⟩
abbrev cX5_keep : ByteArray := prog_7_method_13_code
def yX5_keep : MethodName := ⟨RX5, "keep", "(I)V"⟩
abbrev cX5_kept : ByteArray := prog_7_method_14_code
def yX5_kept : MethodName := ⟨RX5, "kept", "()[I"⟩
abbrev cX5_string : ByteArray := prog_7_method_15_code
def yX5_string : MethodName := ⟨RX5, "string", "()[I"⟩
abbrev cX5_plainName : ByteArray := prog_7_method_16_code
def yX5_plainName : MethodName := ⟨RX5, "plainName", "()[I"⟩
abbrev cX5_isNamed : ByteArray := prog_7_method_17_code
def yX5_isNamed : MethodName := ⟨RX5, "isNamed", "(IZ)Z"⟩
abbrev cX5_escaped : ByteArray := prog_7_method_18_code
def yX5_escaped : MethodName := ⟨RX5, "escaped", "(I)I"⟩
abbrev cX5_control : ByteArray := prog_7_method_19_code
def yX5_control : MethodName := ⟨RX5, "control", "(I)I"⟩
abbrev cX5_hexFour : ByteArray := prog_7_method_20_code
def yX5_hexFour : MethodName := ⟨RX5, "hexFour", "(Z)I"⟩
abbrev cX5_hexValue : ByteArray := prog_7_method_21_code
def yX5_hexValue : MethodName := ⟨RX5, "hexValue", "(I)I"⟩
abbrev cX5_codePoint : ByteArray := prog_7_method_22_code
def yX5_codePoint : MethodName := ⟨RX5, "codePoint", "()I"⟩
abbrev cX5_followers : ByteArray := prog_7_method_23_code
def yX5_followers : MethodName := ⟨RX5, "followers", "(I)I"⟩
abbrev cX5_isShortest : ByteArray := prog_7_method_24_code
def yX5_isShortest : MethodName := ⟨RX5, "isShortest", "(II)Z"⟩
def RX6 : String := "PathHouse$Row"
def TX6 : u_T := fun k => match k with
  | 0 => ("PathHouse$Row", "nodes", "[LPathHouse$Node;", true)
  | _ => ("PathHouse$Row", "count", "I", false)
def tyX6 : Nat → FieldType := fun k => match k with
  | 0 => .array (.object "PathHouse$Node")
  | _ => .int
theorem nmX6 : ∀ a, a < 2 → ∀ b, b < 2 → a ≠ b → (TX6 a).2.1 ≠ (TX6 b).2.1 := by decide +kernel
theorem tyX6_ok : ∀ k, k < 2 → parseFieldDescriptor (TX6 k).2.2.1 = some (tyX6 k) := by decide +kernel
abbrev cX6_init : ByteArray := prog_8_method_1_code
def yX6_init : MethodName := ⟨RX6, "<init>", "()V"⟩
abbrev cX6_get : ByteArray := prog_8_method_2_code
def yX6_get : MethodName := ⟨RX6, "get", "(I)LPathHouse$Node;"⟩
abbrev cX6_add : ByteArray := prog_8_method_3_code
def yX6_add : MethodName := ⟨RX6, "add", "(LPathHouse$Node;)Z"⟩
def RX7 : String := "PathHouse$Segment"
def TX7 : u_T := fun k => match k with
  | 0 => ("PathHouse$Segment", "selectors", "Ljava/util/ArrayList;", true)
  | _ => ("PathHouse$Segment", "deep", "Z", false)
def tyX7 : Nat → FieldType := fun k => match k with
  | 0 => .object "java/util/ArrayList"
  | _ => .boolean
theorem nmX7 : ∀ a, a < 2 → ∀ b, b < 2 → a ≠ b → (TX7 a).2.1 ≠ (TX7 b).2.1 := by decide +kernel
theorem tyX7_ok : ∀ k, k < 2 → parseFieldDescriptor (TX7 k).2.2.1 = some (tyX7 k) := by decide +kernel
abbrev cX7_init : ByteArray := prog_9_method_1_code
def yX7_init : MethodName := ⟨RX7, "<init>", "()V"⟩
def RX8 : String := "PathHouse$Selector"
def TX8 : u_T := fun k => match k with
  | 0 => ("PathHouse$Selector", "kind", "I", true)
  | 1 => ("PathHouse$Selector", "name", "[I", false)
  | 2 => ("PathHouse$Selector", "hasStart", "Z", false)
  | 3 => ("PathHouse$Selector", "hasEnd", "Z", false)
  | 4 => ("PathHouse$Selector", "start", "J", false)
  | 5 => ("PathHouse$Selector", "end", "J", false)
  | 6 => ("PathHouse$Selector", "step", "J", false)
  | _ => ("PathHouse$Selector", "filter", "LPathHouse$Term;", false)
def tyX8 : Nat → FieldType := fun k => match k with
  | 0 => .int
  | 1 => .array .int
  | 2 => .boolean
  | 3 => .boolean
  | 4 => .long
  | 5 => .long
  | 6 => .long
  | _ => .object "PathHouse$Term"
theorem nmX8 : ∀ a, a < 8 → ∀ b, b < 8 → a ≠ b → (TX8 a).2.1 ≠ (TX8 b).2.1 := by decide +kernel
theorem tyX8_ok : ∀ k, k < 8 → parseFieldDescriptor (TX8 k).2.2.1 = some (tyX8 k) := by decide +kernel
abbrev cX8_init : ByteArray := prog_10_method_1_code
def yX8_init : MethodName := ⟨RX8, "<init>", "(I)V"⟩
abbrev cX8_isSingular : ByteArray := prog_10_method_2_code
def yX8_isSingular : MethodName := ⟨RX8, "isSingular", "()Z"⟩
def RX9 : String := "PathHouse$Term"
def TX9 : u_T := fun k => match k with
  | 0 => ("PathHouse$Term", "kind", "I", true)
  | 1 => ("PathHouse$Term", "place", "I", true)
  | 2 => ("PathHouse$Term", "parts", "Ljava/util/ArrayList;", true)
  | 3 => ("PathHouse$Term", "negated", "Z", false)
  | 4 => ("PathHouse$Term", "operator", "I", false)
  | 5 => ("PathHouse$Term", "left", "LPathHouse$Term;", false)
  | 6 => ("PathHouse$Term", "right", "LPathHouse$Term;", false)
  | 7 => ("PathHouse$Term", "nodes", "LPathHouse$Path;", false)
  | _ => ("PathHouse$Term", "own", "LPathHouse$Node;", false)
def tyX9 : Nat → FieldType := fun k => match k with
  | 0 => .int
  | 1 => .int
  | 2 => .object "java/util/ArrayList"
  | 3 => .boolean
  | 4 => .int
  | 5 => .object "PathHouse$Term"
  | 6 => .object "PathHouse$Term"
  | 7 => .object "PathHouse$Path"
  | _ => .object "PathHouse$Node"
theorem nmX9 : ∀ a, a < 9 → ∀ b, b < 9 → a ≠ b → (TX9 a).2.1 ≠ (TX9 b).2.1 := by decide +kernel
theorem tyX9_ok : ∀ k, k < 9 → parseFieldDescriptor (TX9 k).2.2.1 = some (tyX9 k) := by decide +kernel
abbrev cX9_init : ByteArray := prog_11_method_1_code
def yX9_init : MethodName := ⟨RX9, "<init>", "(II)V"⟩
abbrev cX9_partCount : ByteArray := prog_11_method_2_code
def yX9_partCount : MethodName := ⟨RX9, "partCount", "()I"⟩
abbrev cX9_part : ByteArray := prog_11_method_3_code
def yX9_part : MethodName := ⟨RX9, "part", "(I)LPathHouse$Term;"⟩
abbrev cX9_simplest : ByteArray := prog_11_method_4_code
def yX9_simplest : MethodName := ⟨RX9, "simplest", "()LPathHouse$Term;"⟩
abbrev cX9_isFunction : ByteArray := prog_11_method_5_code
def yX9_isFunction : MethodName := ⟨RX9, "isFunction", "()Z"⟩
abbrev cX9_isComparable : ByteArray := prog_11_method_6_code
def yX9_isComparable : MethodName := ⟨RX9, "isComparable", "()Z"⟩
abbrev cX9_wants : ByteArray := prog_11_method_7_code
def yX9_wants : MethodName := ⟨RX9, "wants", "(LPathHouse$Term;)Z"⟩
def RX10 : String := "PathHouse$ValueReader"
def TX10 : u_T := fun k => match k with
  | 0 => ("PathHouse$ValueReader", "in", "LPathHouse$Reader;", true)
  | 1 => ("PathHouse$ValueReader", "count", "I", false)
  | _ => ("PathHouse$ValueReader", "latest", "LPathHouse$Node;", false)
def tyX10 : Nat → FieldType := fun k => match k with
  | 0 => .object "PathHouse$Reader"
  | 1 => .int
  | _ => .object "PathHouse$Node"
theorem nmX10 : ∀ a, a < 3 → ∀ b, b < 3 → a ≠ b → (TX10 a).2.1 ≠ (TX10 b).2.1 := by decide +kernel
theorem tyX10_ok : ∀ k, k < 3 → parseFieldDescriptor (TX10 k).2.2.1 = some (tyX10 k) := by decide +kernel
abbrev cX10_init : ByteArray := prog_12_method_1_code
def yX10_init : MethodName := ⟨RX10, "<init>", "(LPathHouse$Reader;)V"⟩
abbrev cX10_whole : ByteArray := prog_12_method_2_code
def yX10_whole : MethodName := ⟨RX10, "whole", "()LPathHouse$Node;"⟩
abbrev cX10_readNode : ByteArray := prog_12_method_3_code
def yX10_readNode : MethodName := ⟨RX10, "readNode", "(LPathHouse$Node;I)LPathHouse$Node;"⟩
abbrev cX10_kindBegunBy : ByteArray := prog_12_method_4_code
def yX10_kindBegunBy : MethodName := ⟨RX10, "kindBegunBy", "(I)I"⟩
abbrev cX10_readRest : ByteArray := prog_12_method_5_code
def yX10_readRest : MethodName := ⟨RX10, "readRest", "(LPathHouse$Node;)V"⟩
abbrev cX10_readInt : ByteArray := prog_12_method_6_code
def yX10_readInt : MethodName := ⟨RX10, "readInt", "()J"⟩
abbrev cX10_takesEmpty : ByteArray := prog_12_method_7_code
def yX10_takesEmpty : MethodName := ⟨RX10, "takesEmpty", "(I)Z"⟩
abbrev cX10_readElements : ByteArray := prog_12_method_8_code
def yX10_readElements : MethodName := ⟨RX10, "readElements", "(LPathHouse$Node;)V"⟩
abbrev cX10_readMembers : ByteArray := prog_12_method_9_code
def yX10_readMembers : MethodName := ⟨RX10, "readMembers", "(LPathHouse$Node;)V"⟩
abbrev cX10_readMember : ByteArray := prog_12_method_10_code
def yX10_readMember : MethodName := ⟨RX10, "readMember", "(LPathHouse$Node;)V"⟩
def RX11 : String := "PathHouse"
def TX11 : u_T := fun k => match k with
  | 0 => ("PathHouse", "tape", "[B", true)
  | 1 => ("PathHouse", "reader", "LPathHouse$Reader;", true)
  | 2 => ("PathHouse", "valueReader", "LPathHouse$ValueReader;", true)
  | 3 => ("PathHouse", "queryReader", "LPathHouse$QueryReader;", true)
  | 4 => ("PathHouse", "finder", "LPathHouse$Finder;", true)
  | 5 => ("PathHouse", "written", "LPathHouse$Out;", true)
  | 6 => ("PathHouse", "taped", "I", false)
  | 7 => ("PathHouse", "hasRead", "Z", false)
  | 8 => ("PathHouse", "value", "LPathHouse$Node;", false)
  | _ => ("PathHouse", "asked", "LPathHouse$Path;", false)
def tyX11 : Nat → FieldType := fun k => match k with
  | 0 => .array .byte
  | 1 => .object "PathHouse$Reader"
  | 2 => .object "PathHouse$ValueReader"
  | 3 => .object "PathHouse$QueryReader"
  | 4 => .object "PathHouse$Finder"
  | 5 => .object "PathHouse$Out"
  | 6 => .int
  | 7 => .boolean
  | 8 => .object "PathHouse$Node"
  | _ => .object "PathHouse$Path"
theorem nmX11 : ∀ a, a < 10 → ∀ b, b < 10 → a ≠ b → (TX11 a).2.1 ≠ (TX11 b).2.1 := by decide +kernel
theorem tyX11_ok : ∀ k, k < 10 → parseFieldDescriptor (TX11 k).2.2.1 = some (tyX11 k) := by decide +kernel
abbrev cX11_init : ByteArray := prog_1_method_1_code
def yX11_init : MethodName := ⟨RX11, "<init>", "()V"⟩
abbrev cX11_feed : ByteArray := prog_1_method_2_code
def yX11_feed : MethodName := ⟨RX11, "feed", "(IIIII)I"⟩
abbrev cX11_json : ByteArray := prog_1_method_3_code
def yX11_json : MethodName := ⟨RX11, "json", "(I)I"⟩
abbrev cX11_query : ByteArray := prog_1_method_4_code
def yX11_query : MethodName := ⟨RX11, "query", "(I)I"⟩
abbrev cX11_fault : ByteArray := prog_1_method_5_code
def yX11_fault : MethodName := ⟨RX11, "fault", "(I)I"⟩
abbrev cX11_find : ByteArray := prog_1_method_6_code
def yX11_find : MethodName := ⟨RX11, "find", "()I"⟩
abbrev cX11_found : ByteArray := prog_1_method_7_code
def yX11_found : MethodName := ⟨RX11, "found", "(II)I"⟩
abbrev cX11_number : ByteArray := prog_1_method_8_code
def yX11_number : MethodName := ⟨RX11, "number", "(I)J"⟩
abbrev cX11_path : ByteArray := prog_1_method_9_code
def yX11_path : MethodName := ⟨RX11, "path", "(I)I"⟩
abbrev cX11_text : ByteArray := prog_1_method_10_code
def yX11_text : MethodName := ⟨RX11, "text", "(I)I"⟩
abbrev cX11_out : ByteArray := prog_1_method_11_code
def yX11_out : MethodName := ⟨RX11, "out", "(I)I"⟩
abbrev cX11_about : ByteArray := prog_1_method_12_code
def yX11_about : MethodName := ⟨RX11, "about", "(I)I"⟩
abbrev cX11_tapeFour : ByteArray := prog_1_method_13_code
def yX11_tapeFour : MethodName := ⟨RX11, "tapeFour", "(I)V"⟩
abbrev cX11_begin : ByteArray := prog_1_method_14_code
def yX11_begin : MethodName := ⟨RX11, "begin", "(I)Z"⟩
abbrev cX11_isDigit : ByteArray := prog_1_method_15_code
def yX11_isDigit : MethodName := ⟨RX11, "isDigit", "(I)Z"⟩
abbrev cX11_isSmall : ByteArray := prog_1_method_16_code
def yX11_isSmall : MethodName := ⟨RX11, "isSmall", "(I)Z"⟩
abbrev cX11_isLetter : ByteArray := prog_1_method_17_code
def yX11_isLetter : MethodName := ⟨RX11, "isLetter", "(I)Z"⟩
abbrev cX11_isBeyond : ByteArray := prog_1_method_18_code
def yX11_isBeyond : MethodName := ⟨RX11, "isBeyond", "(J)Z"⟩
abbrev cX11_sameChars : ByteArray := prog_1_method_19_code
def yX11_sameChars : MethodName := ⟨RX11, "sameChars", "([I[I)Z"⟩
abbrev cX11_charsBefore : ByteArray := prog_1_method_20_code
def yX11_charsBefore : MethodName := ⟨RX11, "charsBefore", "([I[I)Z"⟩
def RX12 : String := "PathHouseModel$Parts"
def TX12 : u_T := fun k => match k with
  | 0 => ("PathHouseModel$Parts", "kind", "[I", true)
  | 1 => ("PathHouseModel$Parts", "one", "[I", true)
  | 2 => ("PathHouseModel$Parts", "two", "[I", true)
  | 3 => ("PathHouseModel$Parts", "next", "[I", true)
  | 4 => ("PathHouseModel$Parts", "own", "[I", true)
  | 5 => ("PathHouseModel$Parts", "a", "[J", true)
  | 6 => ("PathHouseModel$Parts", "b", "[J", true)
  | 7 => ("PathHouseModel$Parts", "c", "[J", true)
  | 8 => ("PathHouseModel$Parts", "many", "I", false)
  | 9 => ("PathHouseModel$Parts", "first", "I", false)
  | 10 => ("PathHouseModel$Parts", "segments", "I", false)
  | _ => ("PathHouseModel$Parts", "single", "Z", false)
def tyX12 : Nat → FieldType := fun k => match k with
  | 0 => .array .int
  | 1 => .array .int
  | 2 => .array .int
  | 3 => .array .int
  | 4 => .array .int
  | 5 => .array .long
  | 6 => .array .long
  | 7 => .array .long
  | 8 => .int
  | 9 => .int
  | 10 => .int
  | _ => .boolean
theorem nmX12 : ∀ a, a < 12 → ∀ b, b < 12 → a ≠ b → (TX12 a).2.1 ≠ (TX12 b).2.1 := by decide +kernel
theorem tyX12_ok : ∀ k, k < 12 → parseFieldDescriptor (TX12 k).2.2.1 = some (tyX12 k) := by decide +kernel
abbrev cX12_init : ByteArray := prog_15_method_1_code
def yX12_init : MethodName := ⟨RX12, "<init>", "()V"⟩
def RX13 : String := "PathHouseModel$Rows"
def TX13 : u_T := fun k => match k with
  | 0 => ("PathHouseModel$Rows", "kind", "[I", true)
  | 1 => ("PathHouseModel$Rows", "first", "[I", true)
  | 2 => ("PathHouseModel$Rows", "last", "[I", true)
  | 3 => ("PathHouseModel$Rows", "next", "[I", true)
  | 4 => ("PathHouseModel$Rows", "up", "[I", true)
  | 5 => ("PathHouseModel$Rows", "size", "[I", true)
  | 6 => ("PathHouseModel$Rows", "place", "[I", true)
  | 7 => ("PathHouseModel$Rows", "deep", "[I", true)
  | 8 => ("PathHouseModel$Rows", "text", "[I", true)
  | 9 => ("PathHouseModel$Rows", "name", "[I", true)
  | 10 => ("PathHouseModel$Rows", "nameSize", "[I", true)
  | 11 => ("PathHouseModel$Rows", "number", "[J", true)
  | 12 => ("PathHouseModel$Rows", "many", "I", false)
  | _ => ("PathHouseModel$Rows", "deepest", "I", false)
def tyX13 : Nat → FieldType := fun k => match k with
  | 0 => .array .int
  | 1 => .array .int
  | 2 => .array .int
  | 3 => .array .int
  | 4 => .array .int
  | 5 => .array .int
  | 6 => .array .int
  | 7 => .array .int
  | 8 => .array .int
  | 9 => .array .int
  | 10 => .array .int
  | 11 => .array .long
  | 12 => .int
  | _ => .int
theorem nmX13 : ∀ a, a < 14 → ∀ b, b < 14 → a ≠ b → (TX13 a).2.1 ≠ (TX13 b).2.1 := by decide +kernel
theorem tyX13_ok : ∀ k, k < 14 → parseFieldDescriptor (TX13 k).2.2.1 = some (tyX13 k) := by decide +kernel
abbrev cX13_init : ByteArray := prog_16_method_1_code
def yX13_init : MethodName := ⟨RX13, "<init>", "()V"⟩
def RX14 : String := "PathHouseModel$Stop"
def TX14 : u_T := fun k => match k with
  | 0 => ("java/lang/Throwable", "cause", "Ljava/lang/Throwable;", false)
  | 1 => ("java/lang/Throwable", "stackTrace", "[Ljava/lang/StackTraceElement;", false)
  | 2 => ("java/lang/Throwable", "suppressedExceptions", "Ljava/util/List;", false)
  | 3 => ("java/lang/Throwable", "detailMessage", "Ljava/lang/String;", false)
  | 4 => ("java/lang/Throwable", "backtrace", "Ljava/lang/Object;", false)
  | 5 => ("java/lang/Throwable", "depth", "I", false)
  | 6 => ("PathHouseModel$Stop", "kind", "I", false)
  | _ => ("PathHouseModel$Stop", "place", "I", false)
def tyX14 : Nat → FieldType := fun k => match k with
  | 0 => .object "java/lang/Throwable"
  | 1 => .array (.object "java/lang/StackTraceElement")
  | 2 => .object "java/util/List"
  | 3 => .object "java/lang/String"
  | 4 => .object "java/lang/Object"
  | 5 => .int
  | 6 => .int
  | _ => .int
theorem nmX14 : ∀ a, a < 8 → ∀ b, b < 8 → a ≠ b → (TX14 a).2.1 ≠ (TX14 b).2.1 := by decide +kernel
theorem tyX14_ok : ∀ k, k < 8 → parseFieldDescriptor (TX14 k).2.2.1 = some (tyX14 k) := by decide +kernel
abbrev cX14_init : ByteArray := prog_17_method_1_code
def yX14_init : MethodName := ⟨RX14, "<init>", "()V"⟩
def RX15 : String := "PathHouseModel"
def TX15 : u_T := fun k => match k with
  | 0 => ("PathHouseModel", "thrown", "I", false)
  | 1 => ("PathHouseModel", "stop", "LPathHouseModel$Stop;", true)
  | 2 => ("PathHouseModel", "tape", "[B", true)
  | 3 => ("PathHouseModel", "taped", "I", false)
  | 4 => ("PathHouseModel", "length", "I", false)
  | 5 => ("PathHouseModel", "at", "I", false)
  | 6 => ("PathHouseModel", "chars", "[I", true)
  | 7 => ("PathHouseModel", "charCount", "I", false)
  | 8 => ("PathHouseModel", "number", "J", false)
  | 9 => ("PathHouseModel", "isFar", "Z", false)
  | 10 => ("PathHouseModel", "v", "LPathHouseModel$Rows;", false)
  | 11 => ("PathHouseModel", "spare", "LPathHouseModel$Rows;", false)
  | 12 => ("PathHouseModel", "hasValue", "Z", false)
  | 13 => ("PathHouseModel", "hasQuery", "Z", false)
  | 14 => ("PathHouseModel", "fault", "I", false)
  | 15 => ("PathHouseModel", "faultPlace", "I", false)
  | 16 => ("PathHouseModel", "q", "LPathHouseModel$Parts;", false)
  | 17 => ("PathHouseModel", "made", "LPathHouseModel$Parts;", false)
  | 18 => ("PathHouseModel", "open", "I", false)
  | 19 => ("PathHouseModel", "lateKind", "I", false)
  | 20 => ("PathHouseModel", "latePlace", "I", false)
  | 21 => ("PathHouseModel", "isSingle", "Z", false)
  | 22 => ("PathHouseModel", "argumentKind", "I", false)
  | 23 => ("PathHouseModel", "looks", "I", false)
  | 24 => ("PathHouseModel", "foundCount", "I", false)
  | 25 => ("PathHouseModel", "found", "[I", true)
  | 26 => ("PathHouseModel", "lists", "[I", true)
  | 27 => ("PathHouseModel", "base", "I", false)
  | 28 => ("PathHouseModel", "listed", "I", false)
  | 29 => ("PathHouseModel", "kind", "I", false)
  | 30 => ("PathHouseModel", "text", "I", false)
  | 31 => ("PathHouseModel", "size", "I", false)
  | 32 => ("PathHouseModel", "which", "I", false)
  | 33 => ("PathHouseModel", "integer", "J", false)
  | 34 => ("PathHouseModel", "out", "[B", true)
  | 35 => ("PathHouseModel", "outs", "I", false)
  | _ => ("PathHouseModel", "way", "[I", true)
def tyX15 : Nat → FieldType := fun k => match k with
  | 0 => .int
  | 1 => .object "PathHouseModel$Stop"
  | 2 => .array .byte
  | 3 => .int
  | 4 => .int
  | 5 => .int
  | 6 => .array .int
  | 7 => .int
  | 8 => .long
  | 9 => .boolean
  | 10 => .object "PathHouseModel$Rows"
  | 11 => .object "PathHouseModel$Rows"
  | 12 => .boolean
  | 13 => .boolean
  | 14 => .int
  | 15 => .int
  | 16 => .object "PathHouseModel$Parts"
  | 17 => .object "PathHouseModel$Parts"
  | 18 => .int
  | 19 => .int
  | 20 => .int
  | 21 => .boolean
  | 22 => .int
  | 23 => .int
  | 24 => .int
  | 25 => .array .int
  | 26 => .array .int
  | 27 => .int
  | 28 => .int
  | 29 => .int
  | 30 => .int
  | 31 => .int
  | 32 => .int
  | 33 => .long
  | 34 => .array .byte
  | 35 => .int
  | _ => .array .int
theorem nmX15 : ∀ a, a < 37 → ∀ b, b < 37 → a ≠ b → (TX15 a).2.1 ≠ (TX15 b).2.1 := by decide +kernel
theorem tyX15_ok : ∀ k, k < 37 → parseFieldDescriptor (TX15 k).2.2.1 = some (tyX15 k) := by decide +kernel
abbrev cX15_init : ByteArray := prog_14_method_1_code
def yX15_init : MethodName := ⟨RX15, "<init>", "()V"⟩
abbrev cX15_thrown : ByteArray := prog_14_method_2_code
def yX15_thrown : MethodName := ⟨RX15, "thrown", "()I"⟩
abbrev cX15_stop : ByteArray := prog_14_method_3_code
def yX15_stop : MethodName := ⟨RX15, "stop", "(II)LPathHouseModel$Stop;"⟩
abbrev cX15_feed : ByteArray := prog_14_method_4_code
def yX15_feed : MethodName := ⟨RX15, "feed", "(IIIII)I"⟩
abbrev cX15_byteAt : ByteArray := prog_14_method_5_code
def yX15_byteAt : MethodName := ⟨RX15, "byteAt", "(I)I"⟩
abbrev cX15_peek : ByteArray := prog_14_method_6_code
def yX15_peek : MethodName := ⟨RX15, "peek", "()I"⟩
abbrev cX15_is : ByteArray := prog_14_method_7_code
def yX15_is : MethodName := ⟨RX15, "is", "(I)Z"⟩
abbrev cX15_bad : ByteArray := prog_14_method_8_code
def yX15_bad : MethodName := ⟨RX15, "bad", "()LPathHouseModel$Stop;"⟩
abbrev cX15_need : ByteArray := prog_14_method_9_code
def yX15_need : MethodName := ⟨RX15, "need", "(I)V"⟩
abbrev cX15_blanks : ByteArray := prog_14_method_10_code
def yX15_blanks : MethodName := ⟨RX15, "blanks", "()V"⟩
abbrev cX15_isDigit : ByteArray := prog_14_method_11_code
def yX15_isDigit : MethodName := ⟨RX15, "isDigit", "(I)Z"⟩
abbrev cX15_isSmall : ByteArray := prog_14_method_12_code
def yX15_isSmall : MethodName := ⟨RX15, "isSmall", "(I)Z"⟩
abbrev cX15_character : ByteArray := prog_14_method_13_code
def yX15_character : MethodName := ⟨RX15, "character", "()I"⟩
abbrev cX15_keep : ByteArray := prog_14_method_14_code
def yX15_keep : MethodName := ⟨RX15, "keep", "(I)V"⟩
abbrev cX15_hex : ByteArray := prog_14_method_15_code
def yX15_hex : MethodName := ⟨RX15, "hex", "(I)I"⟩
abbrev cX15_hexDigit : ByteArray := prog_14_method_16_code
def yX15_hexDigit : MethodName := ⟨RX15, "hexDigit", "(II)I"⟩
abbrev cX15_unit : ByteArray := prog_14_method_17_code
def yX15_unit : MethodName := ⟨RX15, "unit", "()I"⟩
abbrev cX15_escaped : ByteArray := prog_14_method_18_code
def yX15_escaped : MethodName := ⟨RX15, "escaped", "(I)I"⟩
abbrev cX15_string : ByteArray := prog_14_method_19_code
def yX15_string : MethodName := ⟨RX15, "string", "()I"⟩
abbrev cX15_areSame : ByteArray := prog_14_method_20_code
def yX15_areSame : MethodName := ⟨RX15, "areSame", "(IIII)Z"⟩
abbrev cX15_integer : ByteArray := prog_14_method_21_code
def yX15_integer : MethodName := ⟨RX15, "integer", "(Z)V"⟩
abbrev cX15_begins : ByteArray := prog_14_method_22_code
def yX15_begins : MethodName := ⟨RX15, "begins", "(I)Z"⟩
abbrev cX15_word : ByteArray := prog_14_method_23_code
def yX15_word : MethodName := ⟨RX15, "word", "(Ljava/lang/String;)V"⟩
abbrev cX15_value : ByteArray := prog_14_method_24_code
def yX15_value : MethodName := ⟨RX15, "value", "(II)I"⟩
abbrev cX15_hang : ByteArray := prog_14_method_25_code
def yX15_hang : MethodName := ⟨RX15, "hang", "(II)V"⟩
abbrev cX15_array : ByteArray := prog_14_method_26_code
def yX15_array : MethodName := ⟨RX15, "array", "(II)V"⟩
abbrev cX15_object : ByteArray := prog_14_method_27_code
def yX15_object : MethodName := ⟨RX15, "object", "(II)V"⟩
abbrev cX15_told : ByteArray := prog_14_method_28_code
def yX15_told : MethodName := ⟨RX15, "told", "(II)I"⟩
abbrev cX15_json : ByteArray := prog_14_method_29_code
def yX15_json : MethodName := ⟨RX15, "json", "(I)I"⟩
abbrev cX15_fault : ByteArray := prog_14_method_30_code
def yX15_fault : MethodName := ⟨RX15, "fault", "(I)I"⟩
abbrev cX15_part : ByteArray := prog_14_method_31_code
def yX15_part : MethodName := ⟨RX15, "part", "(I)I"⟩
abbrev cX15_late : ByteArray := prog_14_method_32_code
def yX15_late : MethodName := ⟨RX15, "late", "(II)V"⟩
abbrev cX15_opens : ByteArray := prog_14_method_33_code
def yX15_opens : MethodName := ⟨RX15, "opens", "()V"⟩
abbrev cX15_isLetter : ByteArray := prog_14_method_34_code
def yX15_isLetter : MethodName := ⟨RX15, "isLetter", "(I)Z"⟩
abbrev cX15_selected : ByteArray := prog_14_method_35_code
def yX15_selected : MethodName := ⟨RX15, "selected", "()J"⟩
abbrev cX15_isInteger : ByteArray := prog_14_method_36_code
def yX15_isInteger : MethodName := ⟨RX15, "isInteger", "()Z"⟩
abbrev cX15_name : ByteArray := prog_14_method_37_code
def yX15_name : MethodName := ⟨RX15, "name", "(I)I"⟩
abbrev cX15_slice : ByteArray := prog_14_method_38_code
def yX15_slice : MethodName := ⟨RX15, "slice", "(I)I"⟩
abbrev cX15_selector : ByteArray := prog_14_method_39_code
def yX15_selector : MethodName := ⟨RX15, "selector", "(Z)I"⟩
abbrev cX15_bracketed : ByteArray := prog_14_method_40_code
def yX15_bracketed : MethodName := ⟨RX15, "bracketed", "(Z)I"⟩
abbrev cX15_member : ByteArray := prog_14_method_41_code
def yX15_member : MethodName := ⟨RX15, "member", "()I"⟩
abbrev cX15_segments : ByteArray := prog_14_method_42_code
def yX15_segments : MethodName := ⟨RX15, "segments", "(ZZ)I"⟩
abbrev cX15_path : ByteArray := prog_14_method_43_code
def yX15_path : MethodName := ⟨RX15, "path", "(Z)I"⟩
abbrev cX15_isPath : ByteArray := prog_14_method_44_code
def yX15_isPath : MethodName := ⟨RX15, "isPath", "()Z"⟩
abbrev cX15_literal : ByteArray := prog_14_method_45_code
def yX15_literal : MethodName := ⟨RX15, "literal", "()I"⟩
abbrev cX15_isLiteral : ByteArray := prog_14_method_46_code
def yX15_isLiteral : MethodName := ⟨RX15, "isLiteral", "()Z"⟩
abbrev cX15_isWord : ByteArray := prog_14_method_47_code
def yX15_isWord : MethodName := ⟨RX15, "isWord", "(ILjava/lang/String;)Z"⟩
abbrev cX15_worded : ByteArray := prog_14_method_48_code
def yX15_worded : MethodName := ⟨RX15, "worded", "()I"⟩
abbrev cX15_isOrdered : ByteArray := prog_14_method_49_code
def yX15_isOrdered : MethodName := ⟨RX15, "isOrdered", "()Z"⟩
abbrev cX15_sign : ByteArray := prog_14_method_50_code
def yX15_sign : MethodName := ⟨RX15, "sign", "()I"⟩
abbrev cX15_comparable : ByteArray := prog_14_method_51_code
def yX15_comparable : MethodName := ⟨RX15, "comparable", "()I"⟩
abbrev cX15_compared : ByteArray := prog_14_method_52_code
def yX15_compared : MethodName := ⟨RX15, "compared", "(I)I"⟩
abbrev cX15_tested : ByteArray := prog_14_method_53_code
def yX15_tested : MethodName := ⟨RX15, "tested", "(II)I"⟩
abbrev cX15_basicOf : ByteArray := prog_14_method_54_code
def yX15_basicOf : MethodName := ⟨RX15, "basicOf", "(II)I"⟩
abbrev cX15_bracket : ByteArray := prog_14_method_55_code
def yX15_bracket : MethodName := ⟨RX15, "bracket", "()I"⟩
abbrev cX15_basic : ByteArray := prog_14_method_56_code
def yX15_basic : MethodName := ⟨RX15, "basic", "()I"⟩
abbrev cX15_negated : ByteArray := prog_14_method_57_code
def yX15_negated : MethodName := ⟨RX15, "negated", "(I)I"⟩
abbrev cX15_operand : ByteArray := prog_14_method_58_code
def yX15_operand : MethodName := ⟨RX15, "operand", "()I"⟩
abbrev cX15_all : ByteArray := prog_14_method_59_code
def yX15_all : MethodName := ⟨RX15, "all", "(I)I"⟩
abbrev cX15_any : ByteArray := prog_14_method_60_code
def yX15_any : MethodName := ⟨RX15, "any", "(I)I"⟩
abbrev cX15_argument : ByteArray := prog_14_method_61_code
def yX15_argument : MethodName := ⟨RX15, "argument", "()I"⟩
abbrev cX15_function : ByteArray := prog_14_method_62_code
def yX15_function : MethodName := ⟨RX15, "function", "(I)I"⟩
abbrev cX15_query : ByteArray := prog_14_method_63_code
def yX15_query : MethodName := ⟨RX15, "query", "(I)I"⟩
abbrev cX15_look : ByteArray := prog_14_method_64_code
def yX15_look : MethodName := ⟨RX15, "look", "()V"⟩
abbrev cX15_comes : ByteArray := prog_14_method_65_code
def yX15_comes : MethodName := ⟨RX15, "comes", "(I)V"⟩
abbrev cX15_nodes : ByteArray := prog_14_method_66_code
def yX15_nodes : MethodName := ⟨RX15, "nodes", "(III)I"⟩
abbrev cX15_down : ByteArray := prog_14_method_67_code
def yX15_down : MethodName := ⟨RX15, "down", "(III)V"⟩
abbrev cX15_asked : ByteArray := prog_14_method_68_code
def yX15_asked : MethodName := ⟨RX15, "asked", "(III)V"⟩
abbrev cX15_named : ByteArray := prog_14_method_69_code
def yX15_named : MethodName := ⟨RX15, "named", "(III)I"⟩
abbrev cX15_element : ByteArray := prog_14_method_70_code
def yX15_element : MethodName := ⟨RX15, "element", "(II)I"⟩
abbrev cX15_within : ByteArray := prog_14_method_71_code
def yX15_within : MethodName := ⟨RX15, "within", "(JJJ)J"⟩
abbrev cX15_sliced : ByteArray := prog_14_method_72_code
def yX15_sliced : MethodName := ⟨RX15, "sliced", "(II)V"⟩
abbrev cX15_filtered : ByteArray := prog_14_method_73_code
def yX15_filtered : MethodName := ⟨RX15, "filtered", "(III)V"⟩
abbrev cX15_isTrue : ByteArray := prog_14_method_74_code
def yX15_isTrue : MethodName := ⟨RX15, "isTrue", "(III)Z"⟩
abbrev cX15_pathOf : ByteArray := prog_14_method_75_code
def yX15_pathOf : MethodName := ⟨RX15, "pathOf", "(III)I"⟩
abbrev cX15_ofValue : ByteArray := prog_14_method_76_code
def yX15_ofValue : MethodName := ⟨RX15, "ofValue", "(I)V"⟩
abbrev cX15_ofNumber : ByteArray := prog_14_method_77_code
def yX15_ofNumber : MethodName := ⟨RX15, "ofNumber", "(J)V"⟩
abbrev cX15_comesTo : ByteArray := prog_14_method_78_code
def yX15_comesTo : MethodName := ⟨RX15, "comesTo", "(III)V"⟩
abbrev cX15_compares : ByteArray := prog_14_method_79_code
def yX15_compares : MethodName := ⟨RX15, "compares", "(III)Z"⟩
abbrev cX15_isLess : ByteArray := prog_14_method_80_code
def yX15_isLess : MethodName := ⟨RX15, "isLess", "(IJIIIJII)Z"⟩
abbrev cX15_alike : ByteArray := prog_14_method_81_code
def yX15_alike : MethodName := ⟨RX15, "alike", "(IJIIIIJIII)Z"⟩
abbrev cX15_areAlike : ByteArray := prog_14_method_82_code
def yX15_areAlike : MethodName := ⟨RX15, "areAlike", "(II)Z"⟩
abbrev cX15_areSameValues : ByteArray := prog_14_method_83_code
def yX15_areSameValues : MethodName := ⟨RX15, "areSameValues", "(II)Z"⟩
abbrev cX15_find : ByteArray := prog_14_method_84_code
def yX15_find : MethodName := ⟨RX15, "find", "()I"⟩
abbrev cX15_isFound : ByteArray := prog_14_method_85_code
def yX15_isFound : MethodName := ⟨RX15, "isFound", "(I)Z"⟩
abbrev cX15_steps : ByteArray := prog_14_method_86_code
def yX15_steps : MethodName := ⟨RX15, "steps", "(I)I"⟩
abbrev cX15_found : ByteArray := prog_14_method_87_code
def yX15_found : MethodName := ⟨RX15, "found", "(II)I"⟩
abbrev cX15_number : ByteArray := prog_14_method_88_code
def yX15_number : MethodName := ⟨RX15, "number", "(I)J"⟩
abbrev cX15_put : ByteArray := prog_14_method_89_code
def yX15_put : MethodName := ⟨RX15, "put", "(I)V"⟩
abbrev cX15_say : ByteArray := prog_14_method_90_code
def yX15_say : MethodName := ⟨RX15, "say", "(Ljava/lang/String;)V"⟩
abbrev cX15_sayNumber : ByteArray := prog_14_method_91_code
def yX15_sayNumber : MethodName := ⟨RX15, "sayNumber", "(J)V"⟩
abbrev cX15_sayCharacter : ByteArray := prog_14_method_92_code
def yX15_sayCharacter : MethodName := ⟨RX15, "sayCharacter", "(II)V"⟩
abbrev cX15_sayText : ByteArray := prog_14_method_93_code
def yX15_sayText : MethodName := ⟨RX15, "sayText", "(III)V"⟩
abbrev cX15_path_ : ByteArray := prog_14_method_94_code
def yX15_path_ : MethodName := ⟨RX15, "path", "(I)I"⟩
abbrev cX15_sayValue : ByteArray := prog_14_method_95_code
def yX15_sayValue : MethodName := ⟨RX15, "sayValue", "(I)V"⟩
abbrev cX15_text : ByteArray := prog_14_method_96_code
def yX15_text : MethodName := ⟨RX15, "text", "(I)I"⟩
abbrev cX15_out : ByteArray := prog_14_method_97_code
def yX15_out : MethodName := ⟨RX15, "out", "(I)I"⟩
abbrev cX15_about : ByteArray := prog_14_method_98_code
def yX15_about : MethodName := ⟨RX15, "about", "(I)I"⟩
def RJx145de : String := "java/io/Serializable"
def TJx145de : u_T := fun k => match k with
  | _ => ("", "", "", false)
def tyJx145de : Nat → FieldType := fun k => match k with
  | _ => .int
theorem nmJx145de : ∀ a, a < 0 → ∀ b, b < 0 → a ≠ b → (TJx145de a).2.1 ≠ (TJx145de b).2.1 := by decide +kernel
theorem tyJx145de_ok : ∀ k, k < 0 → parseFieldDescriptor (TJx145de k).2.2.1 = some (tyJx145de k) := by decide +kernel
def RJx8e188 : String := "java/lang/Cloneable"
def TJx8e188 : u_T := fun k => match k with
  | _ => ("", "", "", false)
def tyJx8e188 : Nat → FieldType := fun k => match k with
  | _ => .int
theorem nmJx8e188 : ∀ a, a < 0 → ∀ b, b < 0 → a ≠ b → (TJx8e188 a).2.1 ≠ (TJx8e188 b).2.1 := by decide +kernel
theorem tyJx8e188_ok : ∀ k, k < 0 → parseFieldDescriptor (TJx8e188 k).2.2.1 = some (tyJx8e188 k) := by decide +kernel
def RJxab1ab : String := "java/lang/Iterable"
def TJxab1ab : u_T := fun k => match k with
  | _ => ("", "", "", false)
def tyJxab1ab : Nat → FieldType := fun k => match k with
  | _ => .int
theorem nmJxab1ab : ∀ a, a < 0 → ∀ b, b < 0 → a ≠ b → (TJxab1ab a).2.1 ≠ (TJxab1ab b).2.1 := by decide +kernel
theorem tyJxab1ab_ok : ∀ k, k < 0 → parseFieldDescriptor (TJxab1ab k).2.2.1 = some (tyJxab1ab k) := by decide +kernel
def RJ9 : String := "java/lang/Math"
def TJ9 : u_T := fun k => match k with
  | _ => ("", "", "", false)
def tyJ9 : Nat → FieldType := fun k => match k with
  | _ => .int
theorem nmJ9 : ∀ a, a < 0 → ∀ b, b < 0 → a ≠ b → (TJ9 a).2.1 ≠ (TJ9 b).2.1 := by decide +kernel
theorem tyJ9_ok : ∀ k, k < 0 → parseFieldDescriptor (TJ9 k).2.2.1 = some (tyJ9 k) := by decide +kernel
abbrev cJ9_abs_067f4 : ByteArray := prog_24_method_61_code
def yJ9_abs_067f4 : MethodName := ⟨RJ9, "abs", "(J)J"⟩
abbrev cJ9_max_7cf53 : ByteArray := prog_24_method_65_code
def yJ9_max_7cf53 : MethodName := ⟨RJ9, "max", "(II)I"⟩
abbrev cJ9_max_f86c9 : ByteArray := prog_24_method_66_code
def yJ9_max_f86c9 : MethodName := ⟨RJ9, "max", "(JJ)J"⟩
abbrev cJ9_min_7cf53 : ByteArray := prog_24_method_69_code
def yJ9_min_7cf53 : MethodName := ⟨RJ9, "min", "(II)I"⟩
abbrev cJ9_min_f86c9 : ByteArray := prog_24_method_70_code
def yJ9_min_f86c9 : MethodName := ⟨RJ9, "min", "(JJ)J"⟩
def RJ0 : String := "java/lang/String"
def TJ0 : u_T := fun k => match k with
  | _ => ("", "", "", false)
def tyJ0 : Nat → FieldType := fun k => match k with
  | _ => .int
theorem nmJ0 : ∀ a, a < 0 → ∀ b, b < 0 → a ≠ b → (TJ0 a).2.1 ≠ (TJ0 b).2.1 := by decide +kernel
theorem tyJ0_ok : ∀ k, k < 0 → parseFieldDescriptor (TJ0 k).2.2.1 = some (tyJ0 k) := by decide +kernel
abbrev cJ0_length_8abf5 : ByteArray := prog_26_method_54_code
def yJ0_length_8abf5 : MethodName := ⟨RJ0, "length", "()I"⟩
abbrev cJ0_charAt_5068e : ByteArray := prog_26_method_56_code
def yJ0_charAt_5068e : MethodName := ⟨RJ0, "charAt", "(I)C"⟩
abbrev cJ0_coder_7d493 : ByteArray := prog_26_method_152_code
def yJ0_coder_7d493 : MethodName := ⟨RJ0, "coder", "()B"⟩
abbrev cJ0_isLatin1_aae02 : ByteArray := prog_26_method_154_code
def yJ0_isLatin1_aae02 : MethodName := ⟨RJ0, "isLatin1", "()Z"⟩
abbrev cJ0_checkIndex_df160 : ByteArray := prog_26_method_155_code
def yJ0_checkIndex_df160 : MethodName := ⟨RJ0, "checkIndex", "(II)V"⟩
def RJ1 : String := "java/lang/StringLatin1"
def TJ1 : u_T := fun k => match k with
  | _ => ("", "", "", false)
def tyJ1 : Nat → FieldType := fun k => match k with
  | _ => .int
theorem nmJ1 : ∀ a, a < 0 → ∀ b, b < 0 → a ≠ b → (TJ1 a).2.1 ≠ (TJ1 b).2.1 := by decide +kernel
theorem tyJ1_ok : ∀ k, k < 0 → parseFieldDescriptor (TJ1 k).2.2.1 = some (tyJ1 k) := by decide +kernel
abbrev cJ1_charAt_3b067 : ByteArray := prog_27_method_2_code
def yJ1_charAt_3b067 : MethodName := ⟨RJ1, "charAt", "([BI)C"⟩
def RJ2 : String := "java/lang/StringUTF16"
def TJ2 : u_T := fun k => match k with
  | _ => ("", "", "", false)
def tyJ2 : Nat → FieldType := fun k => match k with
  | _ => .int
theorem nmJ2 : ∀ a, a < 0 → ∀ b, b < 0 → a ≠ b → (TJ2 a).2.1 ≠ (TJ2 b).2.1 := by decide +kernel
theorem tyJ2_ok : ∀ k, k < 0 → parseFieldDescriptor (TJ2 k).2.2.1 = some (tyJ2 k) := by decide +kernel
abbrev cJ2_getChar_3b067 : ByteArray := prog_28_method_5_code
def yJ2_getChar_3b067 : MethodName := ⟨RJ2, "getChar", "([BI)C"⟩
abbrev cJ2_length_9d52b : ByteArray := prog_28_method_6_code
def yJ2_length_9d52b : MethodName := ⟨RJ2, "length", "([B)I"⟩
abbrev cJ2_charAt_3b067 : ByteArray := prog_28_method_83_code
def yJ2_charAt_3b067 : MethodName := ⟨RJ2, "charAt", "([BI)C"⟩
abbrev cJ2_checkIndex_2214a : ByteArray := prog_28_method_91_code
def yJ2_checkIndex_2214a : MethodName := ⟨RJ2, "checkIndex", "(I[B)V"⟩
def RJ10 : String := "java/lang/System"
def TJ10 : u_T := fun k => match k with
  | _ => ("", "", "", false)
def tyJ10 : Nat → FieldType := fun k => match k with
  | _ => .int
theorem nmJ10 : ∀ a, a < 0 → ∀ b, b < 0 → a ≠ b → (TJ10 a).2.1 ≠ (TJ10 b).2.1 := by decide +kernel
theorem tyJ10_ok : ∀ k, k < 0 → parseFieldDescriptor (TJ10 k).2.2.1 = some (tyJ10 k) := by decide +kernel
def RJxa1e45 : String := "java/util/AbstractCollection"
def TJxa1e45 : u_T := fun k => match k with
  | _ => ("", "", "", false)
def tyJxa1e45 : Nat → FieldType := fun k => match k with
  | _ => .int
theorem nmJxa1e45 : ∀ a, a < 0 → ∀ b, b < 0 → a ≠ b → (TJxa1e45 a).2.1 ≠ (TJxa1e45 b).2.1 := by decide +kernel
theorem tyJxa1e45_ok : ∀ k, k < 0 → parseFieldDescriptor (TJxa1e45 k).2.2.1 = some (tyJxa1e45 k) := by decide +kernel
abbrev cJxa1e45_init_da8c8 : ByteArray := prog_31_method_1_code
def yJxa1e45_init_da8c8 : MethodName := ⟨RJxa1e45, "<init>", "()V"⟩
def RJxc12de : String := "java/util/AbstractList"
def TJxc12de : u_T := fun k => match k with
  | _ => ("", "", "", false)
def tyJxc12de : Nat → FieldType := fun k => match k with
  | _ => .int
theorem nmJxc12de : ∀ a, a < 0 → ∀ b, b < 0 → a ≠ b → (TJxc12de a).2.1 ≠ (TJxc12de b).2.1 := by decide +kernel
theorem tyJxc12de_ok : ∀ k, k < 0 → parseFieldDescriptor (TJxc12de k).2.2.1 = some (tyJxc12de k) := by decide +kernel
abbrev cJxc12de_init_da8c8 : ByteArray := prog_32_method_1_code
def yJxc12de_init_da8c8 : MethodName := ⟨RJxc12de, "<init>", "()V"⟩
def RJx4a65c : String := "java/util/ArrayList"
def TJx4a65c : u_T := fun k => match k with
  | 0 => ("java/util/AbstractList", "modCount", "I", false)
  | 1 => ("java/util/ArrayList", "elementData", "[Ljava/lang/Object;", false)
  | _ => ("java/util/ArrayList", "size", "I", false)
def tyJx4a65c : Nat → FieldType := fun k => match k with
  | 0 => .int
  | 1 => .array (.object "java/lang/Object")
  | _ => .int
theorem nmJx4a65c : ∀ a, a < 3 → ∀ b, b < 3 → a ≠ b → (TJx4a65c a).2.1 ≠ (TJx4a65c b).2.1 := by decide +kernel
theorem tyJx4a65c_ok : ∀ k, k < 3 → parseFieldDescriptor (TJx4a65c k).2.2.1 = some (tyJx4a65c k) := by decide +kernel
abbrev cJx4a65c_init_da8c8 : ByteArray := prog_33_method_2_code
def yJx4a65c_init_da8c8 : MethodName := ⟨RJx4a65c, "<init>", "()V"⟩
abbrev cJx4a65c_grow_92f84 : ByteArray := prog_33_method_6_code
def yJx4a65c_grow_92f84 : MethodName := ⟨RJx4a65c, "grow", "(I)[Ljava/lang/Object;"⟩
abbrev cJx4a65c_grow_d5877 : ByteArray := prog_33_method_7_code
def yJx4a65c_grow_d5877 : MethodName := ⟨RJx4a65c, "grow", "()[Ljava/lang/Object;"⟩
abbrev cJx4a65c_size_8abf5 : ByteArray := prog_33_method_8_code
def yJx4a65c_size_8abf5 : MethodName := ⟨RJx4a65c, "size", "()I"⟩
abbrev cJx4a65c_elementData_915e3 : ByteArray := prog_33_method_18_code
def yJx4a65c_elementData_915e3 : MethodName := ⟨RJx4a65c, "elementData", "(I)Ljava/lang/Object;"⟩
abbrev cJx4a65c_get_915e3 : ByteArray := prog_33_method_20_code
def yJx4a65c_get_915e3 : MethodName := ⟨RJx4a65c, "get", "(I)Ljava/lang/Object;"⟩
abbrev cJx4a65c_add_72be8 : ByteArray := prog_33_method_24_code
def yJx4a65c_add_72be8 : MethodName := ⟨RJx4a65c, "add", "(Ljava/lang/Object;[Ljava/lang/Object;I)V"⟩
abbrev cJx4a65c_add_9ea2d : ByteArray := prog_33_method_25_code
def yJx4a65c_add_9ea2d : MethodName := ⟨RJx4a65c, "add", "(Ljava/lang/Object;)Z"⟩
def RJ7 : String := "java/util/Arrays"
def TJ7 : u_T := fun k => match k with
  | _ => ("", "", "", false)
def tyJ7 : Nat → FieldType := fun k => match k with
  | _ => .int
theorem nmJ7 : ∀ a, a < 0 → ∀ b, b < 0 → a ≠ b → (TJ7 a).2.1 ≠ (TJ7 b).2.1 := by decide +kernel
theorem tyJ7_ok : ∀ k, k < 0 → parseFieldDescriptor (TJ7 k).2.2.1 = some (tyJ7 k) := by decide +kernel
abbrev cJ7_copyOf_1904c : ByteArray := prog_34_method_119_code
def yJ7_copyOf_1904c : MethodName := ⟨RJ7, "copyOf", "([Ljava/lang/Object;I)[Ljava/lang/Object;"⟩
abbrev cJ7_copyOf_6403c : ByteArray := prog_34_method_120_code
def yJ7_copyOf_6403c : MethodName := ⟨RJ7, "copyOf", "([Ljava/lang/Object;ILjava/lang/Class;)[Ljava/lang/Object;"⟩
abbrev cJ7_copyOf_59c91 : ByteArray := prog_34_method_123_code
def yJ7_copyOf_59c91 : MethodName := ⟨RJ7, "copyOf", "([II)[I"⟩
def RJx5ef63 : String := "java/util/Collection"
def TJx5ef63 : u_T := fun k => match k with
  | _ => ("", "", "", false)
def tyJx5ef63 : Nat → FieldType := fun k => match k with
  | _ => .int
theorem nmJx5ef63 : ∀ a, a < 0 → ∀ b, b < 0 → a ≠ b → (TJx5ef63 a).2.1 ≠ (TJx5ef63 b).2.1 := by decide +kernel
theorem tyJx5ef63_ok : ∀ k, k < 0 → parseFieldDescriptor (TJx5ef63 k).2.2.1 = some (tyJx5ef63 k) := by decide +kernel
def RJxbd725 : String := "java/util/List"
def TJxbd725 : u_T := fun k => match k with
  | _ => ("", "", "", false)
def tyJxbd725 : Nat → FieldType := fun k => match k with
  | _ => .int
theorem nmJxbd725 : ∀ a, a < 0 → ∀ b, b < 0 → a ≠ b → (TJxbd725 a).2.1 ≠ (TJxbd725 b).2.1 := by decide +kernel
theorem tyJxbd725_ok : ∀ k, k < 0 → parseFieldDescriptor (TJxbd725 k).2.2.1 = some (tyJxbd725 k) := by decide +kernel
def RJ15 : String := "java/util/Objects"
def TJ15 : u_T := fun k => match k with
  | _ => ("", "", "", false)
def tyJ15 : Nat → FieldType := fun k => match k with
  | _ => .int
theorem nmJ15 : ∀ a, a < 0 → ∀ b, b < 0 → a ≠ b → (TJ15 a).2.1 ≠ (TJ15 b).2.1 := by decide +kernel
theorem tyJ15_ok : ∀ k, k < 0 → parseFieldDescriptor (TJ15 k).2.2.1 = some (tyJ15 k) := by decide +kernel
abbrev cJ15_checkIndex_7cf53 : ByteArray := prog_38_method_17_code
def yJ15_checkIndex_7cf53 : MethodName := ⟨RJ15, "checkIndex", "(II)I"⟩
def RJxf0a74 : String := "java/util/RandomAccess"
def TJxf0a74 : u_T := fun k => match k with
  | _ => ("", "", "", false)
def tyJxf0a74 : Nat → FieldType := fun k => match k with
  | _ => .int
theorem nmJxf0a74 : ∀ a, a < 0 → ∀ b, b < 0 → a ≠ b → (TJxf0a74 a).2.1 ≠ (TJxf0a74 b).2.1 := by decide +kernel
theorem tyJxf0a74_ok : ∀ k, k < 0 → parseFieldDescriptor (TJxf0a74 k).2.2.1 = some (tyJxf0a74 k) := by decide +kernel
def RJxa66e6 : String := "java/util/SequencedCollection"
def TJxa66e6 : u_T := fun k => match k with
  | _ => ("", "", "", false)
def tyJxa66e6 : Nat → FieldType := fun k => match k with
  | _ => .int
theorem nmJxa66e6 : ∀ a, a < 0 → ∀ b, b < 0 → a ≠ b → (TJxa66e6 a).2.1 ≠ (TJxa66e6 b).2.1 := by decide +kernel
theorem tyJxa66e6_ok : ∀ k, k < 0 → parseFieldDescriptor (TJxa66e6 k).2.2.1 = some (tyJxa66e6 k) := by decide +kernel
def RJ8 : String := "jdk/internal/util/ArraysSupport"
def TJ8 : u_T := fun k => match k with
  | _ => ("", "", "", false)
def tyJ8 : Nat → FieldType := fun k => match k with
  | _ => .int
theorem nmJ8 : ∀ a, a < 0 → ∀ b, b < 0 → a ≠ b → (TJ8 a).2.1 ≠ (TJ8 b).2.1 := by decide +kernel
theorem tyJ8_ok : ∀ k, k < 0 → parseFieldDescriptor (TJ8 k).2.2.1 = some (tyJ8 k) := by decide +kernel
abbrev cJ8_newLength_cabcc : ByteArray := prog_41_method_27_code
def yJ8_newLength_cabcc : MethodName := ⟨RJ8, "newLength", "(III)I"⟩
abbrev cJ8_hugeLength_7cf53 : ByteArray := prog_41_method_28_code
def yJ8_hugeLength_7cf53 : MethodName := ⟨RJ8, "hugeLength", "(II)I"⟩
def RJ3 : String := "jdk/internal/util/Preconditions"
def TJ3 : u_T := fun k => match k with
  | _ => ("", "", "", false)
def tyJ3 : Nat → FieldType := fun k => match k with
  | _ => .int
theorem nmJ3 : ∀ a, a < 0 → ∀ b, b < 0 → a ≠ b → (TJ3 a).2.1 ≠ (TJ3 b).2.1 := by decide +kernel
theorem tyJ3_ok : ∀ k, k < 0 → parseFieldDescriptor (TJ3 k).2.2.1 = some (tyJ3 k) := by decide +kernel
abbrev cJ3_checkIndex_8e157 : ByteArray := prog_42_method_11_code
def yJ3_checkIndex_8e157 : MethodName := ⟨RJ3, "checkIndex", "(IILjava/util/function/BiFunction;)I"⟩
def RL : String := "PathHouseLaw"
abbrev cL_out : ByteArray := method_3_code
def yL_out : MethodName := ⟨RL, "out", "(LPathHouse;I[J)I"⟩
abbrev cL_law : ByteArray := code
def yL_law : MethodName := ⟨RL, "law", "([I)Z"⟩
abbrev vwCl : List vw_C := [(RJx4a65c, TJx4a65c, 3), (RX0, TX0, 5), (RX1, TX1, 11), (RX2, TX2, 2), (RX3, TX3, 3), (RX4, TX4, 4), (RX5, TX5, 7), (RX6, TX6, 2), (RX7, TX7, 2), (RX8, TX8, 8), (RX9, TX9, 9), (RX10, TX10, 3), (RX11, TX11, 10), (RX12, TX12, 12), (RX13, TX13, 14), (RX14, TX14, 8), (RX15, TX15, 37)]
end
section
/-! CONTRACTS OF METHODS THAT RETURN OR THROW, the outcome told exactly. xb_Met: from every state with Pc the method ends, with Qc of the outcome and the state; xb_back: at a call. -/
section XB
def xb_hh (t : ExceptionTableEntry) : Nat × Nat × Nat × Nat := (t.startPc, t.endPc, t.handlerPc, t.catchType)
def xb_Q (Qc : Array Value → State → Outcome → State → Prop) (mc ms : Nat) (free : Addr → Prop) : Array Value → State → Outcome → State → Prop := fun a st o t =>
  Qc a st o t ∧ st.WarmedH t.vm ∧ ∃ L, st.sameButNew ({ t with vm := st.vm } : State) L mc ms ∧ ∀ q ∈ L, free q.base
def xb_Met (l : Launch) (y : MethodName) (cw : Cond) (rm : Room) (Pc : Array Value → State → Prop) (Qc : Array Value → State → Outcome → State → Prop) (mc ms : Nat) (free : Addr → Prop) : Prop :=
  MetFree l y (headSpec [cw] rm) Pc (fun _ _ _ _ _ => True) (xb_Q Qc mc ms free)
def xb_MQ (below : List Frame) (Qc : Array Value → State → Outcome → State → Prop) (a : Array Value) (s : State) (mc ms : Nat) (free : Addr → Prop) : State → Prop := fun t =>
  ∃ o, t.status = .running ∧ Ended t below o ∧ xb_Q Qc mc ms free a s o t
/-- what a code word (with or without a table) says of a named method -/
def xb_Is (y : MethodName) (cw : Cond) (bytes : ByteArray) (maxL : Nat) (ret : Option FieldType) (hh : List (Nat × Nat × Nat × Nat)) : Prop :=
  ∀ (args : Array Value) (s : State) (m : MethodId), cw.before args s = true → s.methodNamed? y = some m →
    ∃ meth c, s.vm.method? m = some meth ∧ meth.code = some c ∧ c.code = bytes ∧ c.maxLocals = maxL ∧ meth.sig.returnType = ret ∧ meth.locks = false ∧ c.exceptionTable.toList.map xb_hh = hh ∧ parseMethodDescriptor y.desc = some meth.sig
theorem xb_is_code {y : MethodName} {bytes : ByteArray} {maxL : Nat} {ret : Option FieldType} : xb_Is y (.code y bytes maxL ret) bytes maxL ret [] := by
  intro args s m h hn
  obtain ⟨meth, c, h1, h2, h3, h4, h5, h6, h7, h8⟩ := Cond.code_spec hn h
  exact ⟨meth, c, h1, h2, h3, h4, h5, h6, by rw [Array.isEmpty_iff.mp h7]; rfl, h8⟩
theorem xb_is_codeWith {y : MethodName} {bytes : ByteArray} {maxL : Nat} {ret : Option FieldType} {hh : List (Nat × Nat × Nat × Nat)} : xb_Is y (.codeWith y bytes maxL ret hh) bytes maxL ret hh := by
  intro args s m h hn
  obtain ⟨m9, meth9, c9, hn9, h1, h2, h3, h4, h5, h6, h7, h8⟩ := Cond.codeWith_spec h
  cases Option.some.inj (hn9.symm.trans hn)
  exact ⟨meth9, c9, h1, h2, h3, h4, h6, h7, h5, h8⟩
theorem xb_ofW {l : Launch} {y : MethodName} {cw : Cond} {rm : Room} {Pc : Array Value → State → Prop} {Qc : Array Value → State → Outcome → State → Prop} {mc ms : Nat} {free : Addr → Prop} {cc : ByteArray} {maxL : Nat} {ret : Option FieldType} {hh : List (Nat × Nat × Nat × Nat)}
    (hy : plainName y.cls = true) (his : xb_Is y cw cc maxL ret hh)
    (body : ∀ p e s m args below meth c s₁, BodyLoose p l y (headSpec [cw] rm) cc maxL ret e s m args below meth c s₁ → c.maxLocals = maxL → c.exceptionTable.toList.map xb_hh = hh → Pc args s →
      W p l e rm s m args below meth c s.heap [] 0 0 (xb_MQ below Qc args s mc ms free) (entryFrame m args maxL)) : xb_Met l y cw rm Pc Qc mc ms free := by
  have hcw : ∀ (args : Array Value) (s : State), (headSpec [cw] rm).pre.before args s = true → cw.before args s = true := fun args s h => atoms_spec (ws := [cw]) h _ List.mem_cons_self
  refine MetFree.of_bodyS (code := cc) (maxLocals := maxL) (ret := ret) hy ?_ ?_
  · intro args s m h hn
    obtain ⟨meth, c, h1, h2, h3, h4, h5, h6, -, -⟩ := his args s m (hcw _ _ h) hn
    exact ⟨meth, c, h1, h2, h3, h4, h5, h6⟩
  · intro p e s m args below meth c s₁ B hml hP _
    have hh0 : s₁.heap = s.heap := by rw [B.state]; rfl
    have ht : c.exceptionTable.toList.map xb_hh = hh := by
      obtain ⟨meth9, c9, h1, h2, -, -, -, -, h7, -⟩ := his args s m (hcw _ _ B.pre) B.named
      cases Option.some.inj (h1.symm.trans B.method)
      cases Option.some.inj (h2.symm.trans (Stand.of_body B).code)
      exact h7
    obtain ⟨t, a1, o, b1, b2, b3⟩ := body p e s m args below meth c s₁ B hml ht hP s₁ hh0 (Stand.of_body B)
    exact ⟨t, o, a1, b1, b2, b3⟩
/-- AT A CALL: it comes back behind the instruction, or the exception stands over the caller's frame -/
theorem xb_back {l : Launch} {R : Room} {p : Program} {e : Env} {below : List Frame} {s : State} {sargs : Array Value} {y : MethodName} {len W9 : Nat} {cw : Cond} {rm : Room} {Pc : Array Value → State → Prop} {Qc : Array Value → State → Outcome → State → Prop} {mc ms : Nat} {free : Addr → Prop} {bytes : ByteArray} {maxL : Nat} {ret : Option FieldType} {hh : List (Nat × Nat × Nat × Nat)}
    (hM : xb_Met l y cw rm Pc Qc mc ms free) (his : xb_Is y cw bytes maxL ret hh) (hrc : rm.cells = mc) (hrs : rm.slots = ms)
    (hframes : rm.frames + 1 ≤ R.frames) (hlocals : W9 + (maxL + 11) + rm.locals ≤ R.locals)
    {m : MethodId} {meth : Method} {c : Code} {U : State} {Ls : List Loc} {c0 s0 : Nat} {g : JFrame} {ig : Instr} {mk : MethodId} {a : Array Value}
    (X : Stand p l e R s m sargs below meth c U Ls c0 s0) (hg : g.method = m) (hsize : g.locals.size = c.maxLocals) (hdg : decode c.code g.pc = .ok (ig, len))
    (hW : 2 * g.monitorRoom + (g.stack.map fun v => v.category).sum ≤ W9) (hn : U.methodNamed? y = some mk) (h4 : c0 + mc ≤ R.cells) (h5 : s0 + ms ≤ R.slots)
    (h2 : cw.before a U = true) (h3 : (Cond.initialized y.cls).before a U = true) (hPc : Pc a (U.calling g mk a)) :
    (∃ (v : Option Value) (t U' : State) (L : List Loc), Stand p l e R s m sargs below meth c U' (Ls ++ L) (c0 + mc) (s0 + ms) ∧ (∀ q ∈ L, free q.base) ∧ U'.heap = t.heap ∧ U'.vm = t.vm ∧ Qc a (U.calling g mk a) (.returned v) t ∧
      Steps p.tables e below (doInvoke e (U.setTop g) [] mk a).1 (U'.setTop { g with pc := g.pc + len, stack := v.toList ++ g.stack })) ∨
    (∃ (q : Addr) (t U' : State) (L : List Loc), Stand p l e R s m sargs below meth c U' (Ls ++ L) (c0 + mc) (s0 + ms) ∧ (∀ q ∈ L, free q.base) ∧ U'.heap = t.heap ∧ U'.vm = t.vm ∧ Qc a (U.calling g mk a) (.threw q) t ∧
      Steps p.tables e below (doInvoke e (U.setTop g) [] mk a).1 ((U'.setTop g).pushFrame (.throwing q))) := by
  have h1 : (headSpec [cw] rm).pre.before a U = true := atoms_intro fun w hw => by rw [List.mem_singleton.mp hw]; exact h2
  obtain ⟨methY, cY, hmY, hcY, -, hlY, -, -, -, -⟩ := his a U mk h2 hn
  obtain ⟨kY, hkY, -⟩ := className_of_methodNamed hn
  have hinitY : kY.init = .initialized := Cond.initialized_spec (findClass_of_methodNamed hn) hkY h3
  have h : At U g.method c below := by rw [hg]; exact X.here
  have hlocals9 : W9 + (maxL + 11) + (headSpec [cw] rm).room.locals ≤ R.locals := hlocals
  have happ : (headSpec [cw] rm).appliesLoose y e.platform (U.calling g mk a) = true :=
    Spec.appliesLoose_calling (g := g) h hdg hn hkY hinitY
      (X.room_calling (g := g) (R' := (headSpec [cw] rm).room) hsize hmY hcY hframes (by rw [hlY]; omega) (by rw [show (headSpec [cw] rm).room.cells = mc from hrc]; exact h4) (by rw [show (headSpec [cw] rm).room.slots = ms from hrs]; exact h5)) h1
  obtain ⟨mid, hmid⟩ := h.above
  have hfr : (U.setTop g).frames = (.java g :: mid) ++ below := by rw [State.frames_setTop' g h.top, hmid]; rfl
  obtain ⟨o, s₂, hsteps, -, hend, hq⟩ := Steps.callFree hM p X.admits X.cas X.clock (acts := []) hfr happ hPc trivial
  have hq' : xb_Q Qc mc ms free a (U.calling g mk a) o s₂ := hq
  rw [State.frames_setTop' g h.top] at hend
  obtain ⟨g₀, hg0⟩ := Option.isSome_iff_exists.mp h.top
  obtain ⟨r, hr⟩ := State.topJava?_eq_some.mp hg0
  have hr' : (({ U with heap := s₂.heap, slotsUsed := s₂.slotsUsed } : State).setVm s₂.vm).frames = .java g₀ :: r := hr
  obtain ⟨hqc, hW₂, L, hsm, hL⟩ := hq'
  obtain ⟨e2, q2, q3, q4, q5, q6⟩ := id hsm
  have e3 : s₂ = ({ (U.calling g mk a).setFrames s₂.frames with heap := s₂.heap, slotsUsed := s₂.slotsUsed } : State).setVm s₂.vm := by
    have : s₂ = ({ s₂ with vm := (U.calling g mk a).vm } : State).setVm s₂.vm := rfl
    rw [e2] at this
    exact this
  have hW' : U.WarmedH s₂.vm := hW₂
  have hsame : U.sameButNew ({ U with heap := s₂.heap, slotsUsed := s₂.slotsUsed } : State) L mc ms := by
    refine ⟨?_, q2, q3, q4, q5, q6⟩
    obtain ⟨t, ht, -⟩ := State.frames_cons hr
    show ({ U with heap := s₂.heap, slotsUsed := s₂.slotsUsed } : State) = { U.setFrames U.frames with heap := s₂.heap, slotsUsed := s₂.slotsUsed }
    rw [State.setFrames_self ht]
  cases o with
  | returned v =>
    obtain ⟨c₂, i₂, len₂, hc₂, hd₂, hf₂⟩ := hend
    have hcc : c₂ = c := by
      have h1 : s₂.code? g.method = U.code? g.method := by
        rw [State.code?_eq, State.code?_eq, hW'.alike.method?]
      exact Option.some.inj (hc₂.symm.trans (h1.trans h.code))
    subst hcc
    have hlen : len₂ = len := by rw [hdg] at hd₂; cases hd₂; rfl
    subst hlen
    have hs₂ : s₂ = (({ U with heap := s₂.heap, slotsUsed := s₂.slotsUsed } : State).setVm s₂.vm).setTop { g with pc := g.pc + len₂, stack := v.toList ++ g.stack } := by
      refine e3.trans ?_
      rw [hf₂, State.calling_eq h.top, State.setFrames_setFrames, State.setTop_of_frames _ hr', hr]
      rfl
    subst hg
    refine Or.inl ⟨v, s₂, (({ U with heap := s₂.heap, slotsUsed := s₂.slotsUsed } : State).setVm s₂.vm), L,
      ⟨X.admits, X.cas, X.clock, X.frames, X.room, X.hears, X.method, X.code, (X.here.setHeapUsed s₂.heap s₂.slotsUsed).setVm hW'.alike, X.tail, State.WarmedH.trans X.warmed hW', X.limits, X.bytes, X.same.trans (hsame.setVm s.vm)⟩,
      hL, rfl, rfl, hqc, ?_⟩
    rw [← hs₂]
    exact hsteps
  | threw q =>
    have hf₂ : s₂.frames = .throwing q :: .java g :: U.frames.tail := hend
    have hs₂ : s₂ = ((({ U with heap := s₂.heap, slotsUsed := s₂.slotsUsed } : State).setVm s₂.vm).setTop g).pushFrame (.throwing q) := by
      refine e3.trans ?_
      rw [hf₂, State.calling_eq h.top, State.setFrames_setFrames, State.pushFrame, State.frames_setTop _ hr', State.setTop_of_frames _ hr', State.setFrames_setFrames, hr]
      rfl
    subst hg
    refine Or.inr ⟨q, s₂, (({ U with heap := s₂.heap, slotsUsed := s₂.slotsUsed } : State).setVm s₂.vm), L,
      ⟨X.admits, X.cas, X.clock, X.frames, X.room, X.hears, X.method, X.code, (X.here.setHeapUsed s₂.heap s₂.slotsUsed).setVm hW'.alike, X.tail, State.WarmedH.trans X.warmed hW', X.limits, X.bytes, X.same.trans (hsame.setVm s.vm)⟩,
      hL, rfl, rfl, hqc, ?_⟩
    rw [← hs₂]
    exact hsteps
end XB
/-! AN EXCEPTION OVER THE METHOD'S OWN FRAME: caught by the one row of the table, or out -/
section XC
variable {p : Program} {l : Launch} {e : Env} {R : Room} {s : State} {m : MethodId} {args : Array Value} {below : List Frame} {meth : Method} {c : Code} {H : Heap} {locs : List Loc} {cells slots : Nat} {Q : State → Prop}
variable {pc : Nat} {ls : Array Slot} {rest : List Value}
theorem xb_go_link {Q : Handler → Pre} {E : CtlPost} {e : Env} {d : Bool} {acts : List Action} {s : State} {f : JFrame} {a : Addr} {x : ExceptionTableEntry} {t : List ExceptionTableEntry} {c : ClassId} {cell : Cell} (hx : covers x f.pc = true) (h0 : x.catchType ≠ 0)
    (hl : s.vm.ClassLinks e.platform f.method.cls x.catchType c) (hcell : s.heap[a]? = some cell) (hobj : ∀ k, cell.vm ≠ .statics k)
    (hk : ∃ k, s.vm.classes[cell.cls]? = some k) (hc : ∃ k, s.vm.classes[c]? = some k) (hfit : s.vm.assignable cell.cls c = true) :
    wp (findHandler.go f a (x :: t)) Q E e d acts s ↔ Q (.found x.handlerPc) d acts (s.setVm (s.vm.noted f.method.cls x.catchType (.cls c))) := by
  simp only [covers] at hx
  obtain ⟨ha, ht⟩ := (resolveClass_links e.toSetting hl).op (op := VmOp.resolveClass f.method.cls x.catchType) rfl
  have hal : s.vm.Alike (s.vm.noted f.method.cls x.catchType (.cls c)) := (Vm.Alike.refl s.vm).noted _ _ _
  obtain ⟨k1, hk1⟩ := hk
  obtain ⟨k2, hk2⟩ := hc
  obtain ⟨k1', hk1', -⟩ := hal.2.2 _ _ hk1
  obtain ⟨k2', hk2', -⟩ := hal.2.2 _ _ hk2
  have hfit' : (s.vm.noted f.method.cls x.catchType (.cls c)).assignable cell.cls c = true := by rw [hal.assignable]; exact hfit
  simp [findHandler.go, hx, h0, ha, ht, hcell, hobj, hk1', hk2', hfit', VmOp.dirties, VmOp.acts]
theorem xb_caught {tb : Tables} {e : Env} {s target : State} {g : JFrame} {c : Code} {below : List Frame} {a : Addr} (h : At s g.method c below) {pc : Nat} {vm' : Vm}
    (hfind : ∀ (Q : Handler → Pre) (E : CtlPost) (d : Bool) (acts : List Action), wp (findHandler g a) Q E e d acts ((s.setTop g).pushFrame (.throwing a)) ↔ Q (.found pc) d acts (((s.setTop g).pushFrame (.throwing a)).setVm vm'))
    (hrest : Steps tb e below ((s.setVm vm').setTop { g with pc := pc, stack := [.ref a] }) target) :
    Steps tb e below ((s.setTop g).pushFrame (.throwing a)) target := by
  obtain ⟨hgo, hw⟩ := h.throwing a
  refine Steps.head hgo hw ?_
  have hcat : ∀ (S : State) (r : List Frame), (∀ (Q : Handler → Pre) (E : CtlPost) (d : Bool) (acts : List Action), wp (findHandler g a) Q E e d acts S ↔ Q (.found pc) d acts (S.setVm vm')) →
      (stepThrowing e S a (.java g :: r)).Is ((S.setVm vm').setFrames (.java { g with pc := pc, stack := [.ref a] } :: r)) [] := by
    intro S r hf
    simp only [stepThrowing, searchFrame, vmDo]
    generalize hr : Sem.go _ e false [] S = res
    obtain ⟨as, rfl, ha⟩ := Sem.eq_ok_of hr (a := Handler.found pc) (s' := S.setVm vm') (acts' := []) (by simp [hf _ _ _ _])
    exact ⟨rfl, ha⟩
  rw [stepThread_throwing (frames_entered h.top _), (hcat _ _ hfind).1]
  obtain ⟨g₀, hg⟩ := Option.isSome_iff_exists.mp h.top
  obtain ⟨r, hr⟩ := State.topJava?_eq_some.mp hg
  have hr' : (s.setVm vm').frames = .java g₀ :: r := hr
  have hfv : ∀ (u : State) (F G : List Frame), ((u.setFrames F).setVm vm').setFrames G = (u.setVm vm').setFrames G := fun u F G => by
    have h1 : (u.setFrames F).setVm vm' = (u.setVm vm').setFrames F := rfl
    rw [h1, State.setFrames_setFrames]
  rw [State.setTop_of_frames _ hr'] at hrest
  rw [hr, List.tail_cons, State.pushFrame, hfv, State.setTop_of_frames _ hr, hfv]
  exact hrest
/-- the first row of the table covers the pc and takes the exception -/
theorem xb_catch {own name E : String} {ce : Cell} {q : Addr} (hown : s.vm.findClass own = some m.cls) {x : ExceptionTableEntry} {suf : List ExceptionTableEntry} (hsplit : c.exceptionTable.toList = x :: suf) (hx : covers x pc = true) (h0 : x.catchType ≠ 0)
    (hlink : (Cond.classLink own x.catchType name).before args s = true) (hcast : ∃ a b : ClassId, s.vm.findClass E = some a ∧ s.vm.findClass name = some b ∧ s.vm.assignable a b = true) (hcell : H[q]? = some ce) (hv : ce.vm = .none) (hcl : s.vm.findClass E = some ce.cls)
    (kk : W p l e R s m args below meth c H locs cells slots Q (F0 m x.handlerPc ls [.ref q])) : vx_W p l e R s m args below meth c H locs cells slots Q (F0 m pc ls rest) q := by
  intro T hT X
  have hpl : e.platform.magicAccessors = ({} : Platform).magicAccessors := by rw [X.admits.platform]
  obtain ⟨c3, c4, hc3, hc4, hasg⟩ := hcast
  cases Option.some.inj (hc3.symm.trans hcl)
  obtain ⟨c5, hc5, hcl5⟩ := Cond.classLink_spec hown hlink e.platform hpl
  cases Option.some.inj (hc4.symm.trans hc5)
  obtain ⟨dk, _, _, kt, hd, _, _, _, _, hkt, _, hopen⟩ := hcl5.here
  have hcl₀ := X.warmed.classLinks hcl5
  have hW' : s.WarmedH (T.vm.noted m.cls x.catchType (.cls c4)) := X.warmed.noted hd hopen (State.rightAt_cls hcl5)
  have hal := X.warmed.alike
  obtain ⟨kt', hkt', -⟩ := hal.2.2 _ _ hkt
  have hfit' : T.vm.assignable ce.cls c4 = true := by rw [hal.assignable]; exact hasg
  obtain ⟨t, a1, b1⟩ := kk (T.setVm (T.vm.noted m.cls x.catchType (.cls c4))) hT (X.noted hW')
  refine ⟨t, ?_, b1⟩
  refine xb_caught X.here (pc := x.handlerPc) (vm' := T.vm.noted m.cls x.catchType (.cls c4)) ?_ a1
  intro Q' E' d' acts'
  rw [W.findHandler_eq (s := (T.setTop (F0 m pc ls rest)).pushFrame (.throwing q)) (f := F0 m pc ls rest) (meth := meth) (code := c) X.method' X.code, hsplit]
  exact xb_go_link (s := (T.setTop (F0 m pc ls rest)).pushFrame (.throwing q)) (f := F0 m pc ls rest) hx h0 hcl₀ (cell := ce) (by show T.heap[q]? = some ce; rw [hT]; exact hcell) (fun k h => by rw [hv] at h; cases h) (Vm.classAt_of_assignable hfit' ⟨kt', hkt'⟩) ⟨kt', hkt'⟩ hfit'
/-- no row covers the pc -/
theorem xb_out {Qc : Array Value → State → Outcome → State → Prop} {mc ms : Nat} {free : Addr → Prop} {q : Addr} (hout : ∀ x ∈ c.exceptionTable.toList, covers x pc = false) (hlocks : meth.locks = false)
    (hq : ∀ t : State, t.heap = H → s.WarmedH t.vm → Qc args s (.threw q) t) (hf : ∀ z ∈ locs, free z.base) (hc : cells ≤ mc) (hs : slots ≤ ms) :
    vx_W p l e R s m args below meth c H locs cells slots (xb_MQ below Qc args s mc ms free) (F0 m pc ls rest) q := by
  intro T hT X
  obtain ⟨st1, hrun, hend, hW, hsm⟩ := X.leaveThrown q (g := F0 m pc ls rest) rfl rfl rfl hout hlocks
  exact ⟨_, st1, .threw q, hrun, hend, hq _ hT hW, hW, locs, hsm.mono hc hs, hf⟩
end XC
end
section
/-! THE ABSTRACT HEAP: addresses are the machine's own; cell a has a kind (0: not ours; class number + 1; 100 + array kind; 200 + exception), a length, a value in each slot. -/
abbrev Hp : Type := Nat × Nat × (Nat → Nat) × (Nat → Nat) × (Nat → Nat → Value)
def hN (h : Hp) : Nat := h.1
def hU (h : Hp) : Nat := h.2.1
def hK (h : Hp) : Nat → Nat := h.2.2.1
def hL (h : Hp) : Nat → Nat := h.2.2.2.1
def hV (h : Hp) : Nat → Nat → Value := h.2.2.2.2
def hSet (h : Hp) (a i : Nat) (v : Value) : Hp := (hN h, hU h, hK h, hL h, fun b j => if b = a ∧ j = i then v else hV h b j)
def hNew (h : Hp) (kd len used : Nat) (f : Nat → Value) : Hp := (hN h + 1, hU h + used, fun b => if b = hN h then kd else hK h b, fun b => if b = hN h then len else hL h b, fun b j => if b = hN h then f j else hV h b j)
/-- what a claim's walk has fixed: launch, first address of ours, the heap at the start, class numbers, slots, array classes -/
abbrev Cx : Type := Launch × Nat × Heap × (Nat → ClassId) × (Nat → Nat → Nat) × (Nat → ClassId) × (Nat → Nat) × (Nat → Option Nat) × Nat × Nat × (Nat → Int32)
def cL (C : Cx) : Launch := C.1
def cB (C : Cx) : Nat := C.2.1
def cH (C : Cx) : Heap := C.2.2.1
def cC (C : Cx) : Nat → ClassId := C.2.2.2.1
def cI (C : Cx) : Nat → Nat → Nat := C.2.2.2.2.1
def cA (C : Cx) : Nat → ClassId := C.2.2.2.2.2.1
def cS (C : Cx) : Nat → Nat := C.2.2.2.2.2.2.1
def cG (C : Cx) : Nat → Option Nat := C.2.2.2.2.2.2.2.1
/-- the script: its address, its length, its ints -/
def cX (C : Cx) : Nat × Nat × (Nat → Int32) := C.2.2.2.2.2.2.2.2
abbrev aTs : List FieldType := [.byte, .int, .long, .object "java/lang/Object", .object "PathHouse$Node", .object "PathHouse$Row"]
def aT (k : Nat) : FieldType := aTs.getD k .int
def cTys (C : Cx) : List (ClassId × FieldType) := [(cA C 0, .byte), (cA C 1, .int), (cA C 2, .long), (cA C 3, .object "java/lang/Object"), (cA C 4, .object "PathHouse$Node"), (cA C 5, .object "PathHouse$Row")]
def exN (e : Nat) : String := match e with
  | 0 => "java/lang/IllegalArgumentException"
  | 1 => "java/lang/IllegalStateException"
  | _ => "java/util/NoSuchElementException"
def ExC (e : Nat) (s : State) (H : Heap) (q : Nat) : Prop := ∃ ce : Cell, H[q]? = some ce ∧ ce.vm = .none ∧ s.vm.findClass (exN e) = some ce.cls
def CellOK (C : Cx) (h : Hp) (H : Heap) (a : Nat) : Prop :=
  (hK h a < 100 → ∃ r, vwCl[hK h a - 1]? = some r ∧ t_OB a (cC C (hK h a - 1)) r.2.2 (cI C (hK h a - 1)) H (hV h a)) ∧
  (100 ≤ hK h a → hK h a < 200 → hK h a - 100 < 6 ∧ H[a]? = some (arrV (cA C (hK h a - 100)) (hL h a) (hV h a)))
def Rel (C : Cx) (h : Hp) (H : Heap) : Prop :=
  H.size = hN h ∧ cB C ≤ hN h ∧ (∀ q, q < cB C → H[q]? = (cH C)[q]?) ∧ ∀ a, hK h a ≠ 0 → cB C ≤ a ∧ a < hN h ∧ CellOK C h H a
theorem CellOK.kept {C : Cx} {h : Hp} {H H1 : Heap} {a : Nat} (k : CellOK C h H a) (e : H1[a]? = H[a]?) : CellOK C h H1 a := by
  refine ⟨fun q => ?_, fun q1 q2 => ?_⟩
  · obtain ⟨r, r1, r2⟩ := k.1 q
    exact ⟨r, r1, r2.kept e⟩
  · obtain ⟨r1, r2⟩ := k.2 q1 q2
    exact ⟨r1, by rw [e]; exact r2⟩
/-- one cell is written anew, with the same kind and length -/
theorem Rel.put {C : Cx} {h : Hp} {H H1 : Heap} {a i : Nat} {v : Value} (hR : Rel C h H) (hk : hK h a ≠ 0) (hz : H1.size = H.size) (hq : ∀ q, q ≠ a → H1[q]? = H[q]?) (hc : CellOK C (hSet h a i v) H1 a) : Rel C (hSet h a i v) H1 := by
  obtain ⟨r1, r2, r3, r4⟩ := hR
  refine ⟨hz.trans r1, r2, fun q hlt => ?_, fun b hb => ?_⟩
  · have : q ≠ a := fun e => by subst e; exact absurd (r4 q hk).1 (Nat.not_le.mpr hlt)
    rw [hq q this]; exact r3 q hlt
  · obtain ⟨q1, q2, q3⟩ := r4 b hb
    refine ⟨q1, q2, ?_⟩
    by_cases e : b = a
    · subst e; exact hc
    · have e1 := q3.kept (H1 := H1) (hq b e)
      have e2 : hV (hSet h a i v) b = hV h b := by funext j; simp [hSet, hV, e]
      refine ⟨fun z => ?_, fun z1 z2 => ?_⟩
      · rw [e2]; exact e1.1 z
      · rw [e2]; exact e1.2 z1 z2
/-- a cell is made at the end -/
theorem Rel.push {C : Cx} {h : Hp} {H : Heap} {cell : Cell} {kd len used : Nat} {f : Nat → Value} (hR : Rel C h H) (hc : CellOK C (hNew h kd len used f) (H.push cell) (hN h)) : Rel C (hNew h kd len used f) (H.push cell) := by
  obtain ⟨r1, r2, r3, r4⟩ := hR
  have hlt : ∀ q, q < H.size → (H.push cell)[q]? = H[q]? := fun q hq => by rw [Array.getElem?_push]; simp [Nat.ne_of_lt hq]
  refine ⟨by rw [Array.size_push, r1]; rfl, Nat.le_succ_of_le r2, fun q hq => ?_, fun b hb => ?_⟩
  · rw [hlt q (by rw [r1]; exact Nat.lt_of_lt_of_le hq r2)]; exact r3 q hq
  · by_cases e : b = hN h
    · subst e; exact ⟨r2, Nat.lt_succ_self _, hc⟩
    · have hb' : hK h b ≠ 0 := by simpa [hNew, hK, e] using hb
      obtain ⟨q1, q2, q3⟩ := r4 b hb'
      refine ⟨q1, Nat.lt_succ_of_lt q2, ?_⟩
      have e1 := q3.kept (H1 := H.push cell) (hlt b (by rw [r1]; exact q2))
      have e2 : hV (hNew h kd len used f) b = hV h b := by funext j; simp [hNew, hV, e]
      have e3 : hK (hNew h kd len used f) b = hK h b := by simp [hNew, hK, e]
      have e4 : hL (hNew h kd len used f) b = hL h b := by simp [hNew, hL, e]
      refine ⟨fun z => ?_, fun z1 z2 => ?_⟩
      · rw [e2, e3]; rw [e3] at z; exact e1.1 z
      · rw [e2, e3, e4]; rw [e3] at z1 z2; exact e1.2 z1 z2
/-! WHAT HOLDS OF THE TABLES, at every state of the walk -/
def isNest : Cond → Bool
  | .fieldLinkNest .. => true
  | .methodLinkNest .. => true
  | _ => false
def gW : List Cond := lw_tbl.filter goodWord
def nW : List Cond := lw_tbl.filter isNest
def xs_cast (E N : String) (U : State) : Prop := ∃ a b : ClassId, U.vm.findClass E = some a ∧ U.vm.findClass N = some b ∧ U.vm.assignable a b = true
def cWl : List (String × String) := [("java/lang/IllegalArgumentException", "java/lang/IllegalArgumentException"), ("java/lang/IllegalStateException", "java/lang/IllegalStateException"), ("java/util/NoSuchElementException", "java/util/NoSuchElementException"), ("PathHouseModel$Stop", "PathHouseModel$Stop"),
  ("PathHouse$Node", "PathHouse$Node"), ("PathHouse$Segment", "PathHouse$Segment"), ("PathHouse$Selector", "PathHouse$Selector"), ("PathHouse$Term", "PathHouse$Term"), ("PathHouse$Node", "java/lang/Object"), ("PathHouse$Segment", "java/lang/Object"), ("PathHouse$Selector", "java/lang/Object"), ("PathHouse$Term", "java/lang/Object"), ("PathHouse$Row", "PathHouse$Row")]
def aOl : List String := ["java/lang/Object", "PathHouse$Node", "PathHouse$Row"]
def strL : List (String × Nat × String × Nat) := [("PathHouse$Reader", 40, "the text has a fault", 6), ("PathHouse$ValueReader", 73, "null", 4), ("PathHouse$ValueReader", 79, "false", 2), ("PathHouse$ValueReader", 81, "true", 7), ("PathHouse$QueryReader", 304, "length", 3), ("PathHouse$QueryReader", 306, "count", 1), ("PathHouse$QueryReader", 308, "value", 9), ("PathHouse$QueryReader", 283, "null", 4), ("PathHouse$QueryReader", 289, "false", 2), ("PathHouse$QueryReader", 291, "true", 7), ("PathHouse$Finder", 49, "the find ends here", 5), ("PathHouse$Out", 53, "u00", 8), ("PathHouse$Out", 88, "null", 4), ("PathHouse$Out", 90, "false", 2), ("PathHouse$Out", 92, "true", 7), ("PathHouse", 141, "OUT has no such byte", 0), ("PathHouseModel", 204, "null", 4), ("PathHouseModel", 212, "false", 2), ("PathHouseModel", 214, "true", 7), ("PathHouseModel", 390, "length", 3), ("PathHouseModel", 391, "count", 1), ("PathHouseModel", 393, "value", 9)]
def stL : List (String × String × String × Nat) := [("java/lang/Throwable", "UNASSIGNED_STACK", "[Ljava/lang/StackTraceElement;", 0), ("java/lang/Throwable", "SUPPRESSED_SENTINEL", "Ljava/util/List;", 1), ("java/util/ArrayList", "DEFAULTCAPACITY_EMPTY_ELEMENTDATA", "[Ljava/lang/Object;", 2)]
/-- what the start's heap holds for the makers of exceptions -/
def EXs (C : Cx) (U : State) : Prop := (cL C).stackTraces = false ∧ vx_Zq Bundle.tN "UNASSIGNED_STACK" Bundle.steD (fun q => cB C ≤ q) U (cH C) ∧ vx_Zq Bundle.tN "SUPPRESSED_SENTINEL" Bundle.listD (fun q => cB C ≤ q) U (cH C)
def dWx : List Cond := [.declares (Bundle.initS "java/lang/RuntimeException"), .declares (Bundle.initS "java/lang/Exception"), .declares (Bundle.initS "java/lang/Throwable")]
def SF (C : Cx) (U : State) : Prop := (∀ w ∈ gW, ∀ A : Array Value, w.before A U = true) ∧ (∀ w ∈ nW, va_Nw w U) ∧ va_K (cC C, cI C) vwCl (cTys C) U ∧ (∀ q ∈ cWl, xs_cast q.1 q.2 U) ∧ (∀ q ∈ aOl, va_AO q U) ∧ EXs C U ∧ (∀ q ∈ strL, vk_R q.1 q.2.1 q.2.2.1 (cS C q.2.2.2) U) ∧ (∀ q ∈ stL, va_Z q.1 q.2.1 q.2.2.1 (va_rf (cG C q.2.2.2)) (fun z => cB C ≤ z) U (cH C)) ∧ (∀ w ∈ dWx, va_Nw w U) ∧ (cX C).1 < cB C ∧ va_X (cX C).1 (cX C).2.1 (cX C).2.2 U (cH C)
theorem xs_cast.moved {E N : String} {u U : State} (hvm : u.vm.Alike U.vm) (h : xs_cast E N u) : xs_cast E N U := by
  obtain ⟨a, b, h1, h2, h3⟩ := h
  exact ⟨a, b, by rw [hvm.findClass]; exact h1, by rw [hvm.findClass]; exact h2, by rw [hvm.assignable]; exact h3⟩
theorem SF.warm {C : Cx} {s U : State} (hW : s.WarmedH U.vm) (h : SF C s) : SF C U := by
  obtain ⟨h1, h2, h3, h4, h5, ⟨h6, h7, h8⟩, h9, h10, h11, h12, h13⟩ := h
  refine ⟨fun w hw A => ?_, fun w hw => ?_, va_K.moved hW.alike h3, fun q hq => (h4 q hq).moved hW.alike, fun q hq => (h5 q hq).moved hW.alike, ⟨h6, vx_Zq.moved hW.alike h7, vx_Zq.moved hW.alike h8⟩, fun q hq => vk_R.warm hW (h9 q hq), fun q hq => va_Z.moved hW.alike (h10 q hq), fun w hw => ?_, h12, va_X.moved hW.alike h13⟩
  · have hg : goodWord w = true := (List.mem_filter.mp hw).2
    exact word_at hW (good_of_word hg) (h1 w hw #[])
  · have hg : isNest w = true := (List.mem_filter.mp hw).2
    have h := h2 w hw
    cases w with
    | fieldLinkNest a i b n d k => exact va_Nw.warmF hW h
    | methodLinkNest a i x k => exact va_Nw.warmM hW h
    | _ => cases hg
  · have h := h11 w hw
    have key : ∀ y : MethodName, va_Nw (.declares y) s → va_Nw (.declares y) U := fun y h => va_tabs rfl (rfl : (s.setVm U.vm).vm = U.vm) (Cond.before_shiftedFace (State.Shifted.of_warmed hW) (.declares y) rfl h)
    simp only [dWx, List.mem_cons, List.not_mem_nil, or_false] at hw
    rcases hw with rfl | rfl | rfl <;> exact key _ h
theorem SF.same {C : Cx} {s U : State} (hvm : s.vm = U.vm) (h : SF C s) : SF C U := SF.warm (by rw [← hvm]; exact State.WarmedH.refl s) h
/-! OUTCOMES -/
abbrev Out : Type := Option Value ⊕ (Nat × Nat)
def QO (C : Cx) (o : Out) (h : Hp) : Array Value → State → Outcome → State → Prop := fun _ st oc t =>
  Rel C h t.heap ∧ match o with
  | .inl v => oc = .returned v
  | .inr (kd, a) => ∃ q, oc = .threw q ∧ ((kd = 16 ∧ q = a ∧ hK h a = 16) ∨ (200 ≤ kd ∧ ExC (kd - 200) st t.heap q))
end
section
/-! A POINT OF A METHOD'S BODY, over the abstract heap: from pc, locals lv, stack st and heap h the method ends in o' with heap h' -/
abbrev Mi : Type := String × String × ByteArray × Nat × Option FieldType × List (Nat × Nat × Nat × Nat)
def Ctx (C : Cx) (M : Mi) (p : Program) (s : State) (m : MethodId) (meth : Method) (c : Code) : Prop :=
  p.tables.exec = Jvm.exec ∧ c.code = M.2.2.1 ∧ c.maxLocals = M.2.2.2.1 ∧ meth.sig.returnType = M.2.2.2.2.1 ∧ meth.locks = false ∧ c.exceptionTable.toList.map xb_hh = M.2.2.2.2.2 ∧ s.vm.findClass M.1 = some m.cls ∧ meth.name = M.2.1 ∧ SF C s
def RmOf (fr lo : Nat) (h0 h' : Hp) : Room := { frames := fr, cells := hN h' - hN h0, slots := hU h' - hU h0, locals := lo }
def Gd (C : Cx) (M : Mi) (fr lo : Nat) (h0 : Hp) (o' : Out) (h' : Hp) (pc : Nat) (lv : List (Nat × Value)) (st : List Value) (h : Hp) : Prop :=
  ∀ (p : Program) (e : Env) (s : State) (m : MethodId) (args : Array Value) (below : List Frame) (meth : Method) (c : Code) (H : Heap) (locs : List Loc) (ls : Array Slot),
    Ctx C M p s m meth c → Rel C h0 s.heap → Rel C h H → hN h0 ≤ hN h → hU h0 ≤ hU h → (∀ l ∈ locs, cB C ≤ l.base) → lv_has ls M.2.2.2.1 lv →
    W p (cL C) e (RmOf fr lo h0 h') s m args below meth c H locs (hN h - hN h0) (hU h - hU h0) (xb_MQ below (QO C o' h') args s (hN h' - hN h0) (hU h' - hU h0) (fun q => cB C ≤ q)) (F0 m pc ls st)
/-- the field k of the class ci, through the entry idx -/
def FL (M : Mi) (idx ci k : Nat) : Prop := ∃ (r : vw_C) (ty : Nat → FieldType), vwCl[ci]? = some r ∧ k < r.2.2 ∧ (∀ w ∈ u_ws r.1 r.2.1 r.2.2, w ∈ gW) ∧
  (∀ k, k < r.2.2 → parseFieldDescriptor (r.2.1 k).2.2.1 = some (ty k)) ∧ (∀ a, a < r.2.2 → ∀ b, b < r.2.2 → a ≠ b → (r.2.1 a).2.1 ≠ (r.2.1 b).2.1) ∧
  (Cond.fieldLink M.1 idx (r.2.1 k).1 (r.2.1 k).2.1 (r.2.1 k).2.2.1 ∈ gW ∨ ∃ host, Cond.fieldLinkNest M.1 idx (r.2.1 k).1 (r.2.1 k).2.1 (r.2.1 k).2.2.1 host ∈ nW)
section GD
variable {C : Cx} {M : Mi} {h0 h h' : Hp} {fr lo : Nat} {o' : Out} {pc pc' : Nat} {lv lv' : List (Nat × Value)} {st st' : List Value}
theorem gd_step (f : ∀ {p : Program} {l : Launch} {e : Env} {R : Room} {s : State} {m : MethodId} {args : Array Value} {below : List Frame} {meth : Method} {c : Code} {H : Heap} {locs : List Loc} {cells slots : Nat} {Q : State → Prop} {ls : Array Slot}, p.tables.exec = Jvm.exec → c.code = M.2.2.1 → lv_has ls M.2.2.2.1 lv →
      W p l e R s m args below meth c H locs cells slots Q (F0 m pc' ls st') → W p l e R s m args below meth c H locs cells slots Q (F0 m pc ls st))
    (k : Gd C M fr lo h0 o' h' pc' lv st' h) : Gd C M fr lo h0 o' h' pc lv st h := by
  intro p e s m args below meth c H locs ls hc hR0 hR hn hu hL hl
  exact f hc.1 hc.2.1 hl (k p e s m args below meth c H locs ls hc hR0 hR hn hu hL hl)
theorem gd_stepL (f : ∀ {p : Program} {l : Launch} {e : Env} {R : Room} {s : State} {m : MethodId} {args : Array Value} {below : List Frame} {meth : Method} {c : Code} {H : Heap} {locs : List Loc} {cells slots : Nat} {Q : State → Prop} {ls : Array Slot}, p.tables.exec = Jvm.exec → c.code = M.2.2.1 → lv_has ls M.2.2.2.1 lv →
      (∀ ls : Array Slot, lv_has ls M.2.2.2.1 lv' → W p l e R s m args below meth c H locs cells slots Q (F0 m pc' ls st')) → W p l e R s m args below meth c H locs cells slots Q (F0 m pc ls st))
    (k : Gd C M fr lo h0 o' h' pc' lv' st' h) : Gd C M fr lo h0 o' h' pc lv st h := by
  intro p e s m args below meth c H locs ls hc hR0 hR hn hu hL hl
  exact f hc.1 hc.2.1 hl (fun ls hl => k p e s m args below meth c H locs ls hc hR0 hR hn hu hL hl)
/-- constants of the class file -/
theorem gd_stepC (f : ∀ {p : Program} {l : Launch} {e : Env} {R : Room} {s : State} {m : MethodId} {args : Array Value} {below : List Frame} {meth : Method} {c : Code} {H : Heap} {locs : List Loc} {cells slots : Nat} {Q : State → Prop} {ls : Array Slot}, p.tables.exec = Jvm.exec → c.code = M.2.2.1 → s.vm.findClass M.1 = some m.cls → (∀ w ∈ gW, w.before args s = true) →
      W p l e R s m args below meth c H locs cells slots Q (F0 m pc' ls st') → W p l e R s m args below meth c H locs cells slots Q (F0 m pc ls st))
    (k : Gd C M fr lo h0 o' h' pc' lv st' h) : Gd C M fr lo h0 o' h' pc lv st h := by
  intro p e s m args below meth c H locs ls hc hR0 hR hn hu hL hl
  exact f hc.1 hc.2.1 hc.2.2.2.2.2.2.1 (fun w hw => hc.2.2.2.2.2.2.2.2.1 w hw args) (k p e s m args below meth c H locs ls hc hR0 hR hn hu hL hl)
theorem gd_get {a ci k idx : Nat} (hF : FL M idx ci k) (hk : hK h a = ci + 1) (hci : ci < 99) (hdg : decode M.2.2.1 pc = .ok (.getfield idx, 3))
    (kk : Gd C M fr lo h0 o' h' (pc + 3) lv (hV h a k :: st) h) : Gd C M fr lo h0 o' h' pc lv (.ref a :: st) h := by
  intro p e s m args below meth c H locs ls hc hR0 hR hn hu hL hl
  obtain ⟨r, ty, hr, hkN, hin, -, -, hlink⟩ := hF
  have hts : ∀ w ∈ gW, w.before args s = true := fun w hw => hc.2.2.2.2.2.2.2.2.1 w hw args
  obtain ⟨-, -, hcell⟩ := hR.2.2.2 a (by rw [hk]; exact Nat.succ_ne_zero _)
  obtain ⟨r9, hr9, hob⟩ := hcell.1 (by rw [hk]; omega)
  rw [hk, Nat.add_sub_cancel] at hr9 hob
  cases hr.symm.trans hr9
  obtain ⟨cell, q1, q2, q3, q4⟩ := hob
  obtain ⟨hS, hfc, kC, hkC, hkind⟩ := hc.2.2.2.2.2.2.2.2.2.2.1.1 ci _ hr
  obtain ⟨cf, kf, fi, f, hi, hsl⟩ := hS k hkN
  have hst := (u_facts hfc hkC (u_lays hts hin hkN) hi).1
  have hv : cell.slots[f.slot]? = some (hV h a k) := by rw [hsl]; exact q4 k hkN
  have kk' := kk p e s m args below meth c H locs ls hc hR0 hR hn hu hL hl
  rcases hlink with h1 | ⟨host, h1⟩
  · exact W.getf hc.1 hc.2.1 hc.2.2.2.2.2.2.1 (hts _ h1) hi hst q1 (by rw [q3]; exact fun h => by cases h) hv rfl rfl hdg kk'
  · exact va_Wgetf hc.1 hc.2.1 hc.2.2.2.2.2.2.1 (va_Nw.use rfl (hc.2.2.2.2.2.2.2.2.2.1 _ h1)) hi hst q1 (by rw [q3]; exact fun h => by cases h) hv rfl rfl hdg kk'
/-- what a field takes -/
def Sto (ty : FieldType) (v : Value) : Prop := narrow ty v = v ∧ fits ty v = true
theorem gd_put {a ci k idx : Nat} {v : Value} {ty : FieldType} (hF : FL M idx ci k) (hty : ∀ r, vwCl[ci]? = some r → parseFieldDescriptor (r.2.1 k).2.2.1 = some ty) (hk : hK h a = ci + 1) (hci : ci < 99) (hsto : Sto ty v)
    (hfin : ∀ r : vw_C, vwCl[ci]? = some r → (r.2.1 k).2.2.2 = true → M.2.1 = "<init>" ∧ (r.2.1 k).1 = M.1 ∧ Cond.fieldLink M.1 idx (r.2.1 k).1 (r.2.1 k).2.1 (r.2.1 k).2.2.1 ∈ gW)
    (hdg : decode M.2.2.1 pc = .ok (.putfield idx, 3)) (kk : Gd C M fr lo h0 o' h' (pc + 3) lv st (hSet h a k v)) : Gd C M fr lo h0 o' h' pc lv (v :: .ref a :: st) h := by
  intro p e s m args below meth c H locs ls hc hR0 hR hn hu hL hl
  obtain ⟨r, ty0, hr, hkN, hin, hty0, hnm, hlink⟩ := hF
  have hts : ∀ w ∈ gW, w.before args s = true := fun w hw => hc.2.2.2.2.2.2.2.2.1 w hw args
  have hk0 : hK h a ≠ 0 := by rw [hk]; exact Nat.succ_ne_zero _
  obtain ⟨hba, -, hcell⟩ := hR.2.2.2 a hk0
  obtain ⟨r9, hr9, hob⟩ := hcell.1 (by rw [hk]; omega)
  rw [hk, Nat.add_sub_cancel] at hr9 hob
  cases hr.symm.trans hr9
  obtain ⟨cell, q1, q2, q3, q4⟩ := hob
  have hKK := hc.2.2.2.2.2.2.2.2.2.2.1
  have hap := va_apart (own := M.1) hts hin ty0 hty0 hnm hKK hr
  obtain ⟨hS, hfc, kC, hkC, hkind⟩ := hKK.1 ci _ hr
  obtain ⟨cf, kf, fi, f, hi, hsl⟩ := hS k hkN
  have hd := hty r hr
  have hlay := hts _ (hin _ (u_in_lay hkN))
  unfold u_lay at hlay
  have hst := (u_facts hfc hkC (u_lays hts hin hkN) hi).1
  have hslot : f.slot < cell.slots.size := by rw [hsl]; exact k2_hasslot (q4 k hkN)
  have fin : ∀ H' : Heap, H'[a]? = some (cell.setSlot f.slot v) → H'.size = H.size → (∀ q, q ≠ a → H'[q]? = H[q]?) → W p (cL C) e (RmOf fr lo h0 h') s m args below meth c H' (locs ++ [⟨a, f.slot⟩]) (hN h - hN h0) (hU h - hU h0) (xb_MQ below (QO C o' h') args s (hN h' - hN h0) (hU h' - hU h0) (fun q => cB C ≤ q)) (F0 m (pc + 3) ls st) := by
    intro H' e1 e2 e3
    refine kk p e s m args below meth c H' _ ls hc hR0 (hR.put hk0 e2 e3 ⟨fun _ => ⟨r, ?_, ?_⟩, fun z => ?_⟩) hn hu (fun z hz => ?_) hl
    · show vwCl[hK h a - 1]? = some r
      rw [hk]; exact hr
    · show t_OB a (cC C (hK h a - 1)) r.2.2 (cI C (hK h a - 1)) H' _
      rw [hk, Nat.add_sub_cancel]
      rw [hsl] at e1
      refine t_OB.to (V := updV (hV h a) k v) ⟨_, e1, q2, q3, t_set q4 hap hkN v⟩ (fun j _ => ?_)
      simp [updV, hSet, hV]
    · exact absurd z (by show ¬ 100 ≤ hK h a; rw [hk]; omega)
    · rcases List.mem_append.mp hz with z | z
      · exact hL _ z
      · rw [List.mem_singleton.mp z]; exact hba
  by_cases hf : (r.2.1 k).2.2.2 = true
  · obtain ⟨hi1, hi2, hi3⟩ := hfin r hr hf
    rw [if_pos hf] at hlay
    have hcf : m.cls = cf := by
      obtain ⟨_, _, c', _, _, _, -, -, hf', -, -, -, hown2, -⟩ := Cond.laysFinal_spec hlay
      have e1 : c' = cf := by have := hi.symm.trans hf'; simp at this; exact this.1.symm
      rw [hi2] at hown2
      rw [← e1]; exact Option.some.inj (hc.2.2.2.2.2.2.1.symm.trans hown2)
    have h6 := u_fits hfc hkC hkind (Or.inr hlay) hi hd hsto.1 hsto.2
    exact W.putFinK hc.1 hc.2.1 hc.2.2.2.2.2.2.1 (hts _ hi3) hi hst hcf (hc.2.2.2.2.2.2.2.1.trans hi1) (by rw [q2]; exact h6) q1 q3 hslot rfl rfl hdg fin
  · rw [if_neg hf] at hlay
    have h6 := u_store hfc hkC hkind hlay hi hd hsto.1 hsto.2
    rcases hlink with h1 | ⟨host, h1⟩
    · exact W.putK hc.1 hc.2.1 (f := f) ⟨hc.2.2.2.2.2.2.1, hts _ h1, ⟨_, _, _, hi⟩, hst⟩ (by rw [q2]; exact h6) q1 q3 hslot rfl rfl hdg fin
    · exact va_WputK hc.1 hc.2.1 (f := f) hc.2.2.2.2.2.2.1 (va_Nw.use rfl (hc.2.2.2.2.2.2.2.2.2.1 _ h1)) hi hst (by rw [q2]; exact h6) q1 q3 hslot rfl rfl hdg fin
theorem gd_new {ci idx n : Nat} {r : vw_C} {ty : Nat → FieldType} {f : Nat → Value} (hr : vwCl[ci]? = some r) (hci : ci < 99) (hin : ∀ w ∈ u_ws r.1 r.2.1 r.2.2, w ∈ gW) (hty : ∀ k, k < r.2.2 → parseFieldDescriptor (r.2.1 k).2.2.1 = some (ty k)) (hf : ∀ k, k < r.2.2 → defaultValue (ty k) = f k)
    (h1 : Cond.classLink M.1 idx r.1 ∈ gW) (h2 : Cond.instantiable r.1 n ∈ gW) (h3 : Cond.initialized r.1 ∈ gW) (hdg : decode M.2.2.1 pc = .ok (.new idx, 3)) (hN' : hN h + 1 ≤ hN h') (hU' : hU h + n ≤ hU h')
    (kk : Gd C M fr lo h0 o' h' (pc + 3) lv (.ref (hN h) :: st) (hNew h (ci + 1) 0 n f)) : Gd C M fr lo h0 o' h' pc lv st h := by
  intro p e s m args below meth c H locs ls hc hR0 hR hn hu hL hl
  have hts : ∀ w ∈ gW, w.before args s = true := fun w hw => hc.2.2.2.2.2.2.2.2.1 w hw args
  have hKn := hc.2.2.2.2.2.2.2.2.2.2.1.1 ci _ hr
  obtain ⟨hS, hfc, kC, hkC, hkind⟩ := id hKn
  refine W.newc hc.1 hc.2.1 hc.2.2.2.2.2.2.1 (hts _ h1) (hts _ h2) (hts _ h3) (g := F0 m pc ls st) rfl hdg (by show hN h - hN h0 + 1 ≤ hN h' - hN h0; omega) (by show hU h - hU h0 + n ≤ hU h' - hU h0; omega) fun cC' kC' z1 z2 z3 z4 => ?_
  cases hfc.symm.trans z1
  cases hkC.symm.trans z2
  have hcell : (H.push (blank (cC C ci) kC))[hN h]? = some (blank (cC C ci) kC) := by rw [← hR.1]; simp
  have e1 : hN (hNew h (ci + 1) 0 n f) - hN h0 = hN h - hN h0 + 1 := by show hN h + 1 - hN h0 = _; omega
  have e2 : hU (hNew h (ci + 1) 0 n f) - hU h0 = hU h - hU h0 + n := by show hU h + n - hU h0 = _; omega
  have kk' := kk p e s m args below meth c (H.push (blank (cC C ci) kC)) locs ls hc hR0 (hR.push ⟨fun _ => ⟨r, ?_, ?_⟩, fun z => ?_⟩) (by show hN h0 ≤ hN h + 1; omega) (by show hU h0 ≤ hU h + n; omega) hL hl
  · rw [e1, e2] at kk'
    rw [hR.1]
    exact kk'
  · simp [hNew, hK]; exact hr
  · have hb := u_born (o := hN h) (H := H.push (blank (cC C ci) kC)) ty hts hin hKn hkC hcell hty
    have hb2 := hb.to hf
    simpa [hNew, hK, hV] using hb2
  · exact absurd z (by simp [hNew, hK]; omega)
end GD
end
section
/-! ARRAYS, RETURNS, EXCEPTIONS, CALLS at a point of a body -/
section GR
variable {C : Cx} {M : Mi} {h0 h h' h1 : Hp} {fr lo fr' lo' : Nat} {o o' : Out} {pc pc' : Nat} {lv lv' : List (Nat × Value)} {st st' rest : List Value}
theorem cTys_at {C : Cx} {t : Nat} (ht : t < 6) : (cTys C)[t]? = some (cA C t, aT t) := by
  match t, ht with
  | 0, _ => rfl
  | 1, _ => rfl
  | 2, _ => rfl
  | 3, _ => rfl
  | 4, _ => rfl
  | 5, _ => rfl
theorem gd_arr {s : State} {H : Heap} {a t : Nat} (hS : SF C s) (hR : Rel C h H) (hk : hK h a = 100 + t) (ht : t < 6) : cB C ≤ a ∧ H[a]? = some (arrV (cA C t) (hL h a) (hV h a)) ∧ (∀ (n : Nat) (z : Nat → Value), s.isArrayOf (arrV (cA C t) n z) (aT t)) ∧ va_RA s (cA C t) (aT t) := by
  obtain ⟨hb, -, hc⟩ := hR.2.2.2 a (by rw [hk]; omega)
  obtain ⟨-, he⟩ := hc.2 (by rw [hk]; omega) (by rw [hk]; omega)
  rw [hk, Nat.add_sub_cancel_left] at he
  have h2 := hS.2.2.1.2 t _ (cTys_at ht)
  exact ⟨hb, he, h2.1, h2.2⟩
theorem gd_alen {a t : Nat} (hk : hK h a = 100 + t) (ht : t < 6) (hdg : decode M.2.2.1 pc = .ok (.arraylength, 1))
    (kk : Gd C M fr lo h0 o' h' (pc + 1) lv (.int (nI (hL h a)) :: st) h) : Gd C M fr lo h0 o' h' pc lv (.ref a :: st) h := by
  intro p e s m args below meth c H locs ls hc hR0 hR hn hu hq hl
  obtain ⟨-, he, ha, -⟩ := gd_arr hc.2.2.2.2.2.2.2.2 hR hk ht
  exact W.alen hc.1 hc.2.1 he (ha _ _) (by rw [arrV_size]; rfl) rfl rfl hdg (kk p e s m args below meth c H locs ls hc hR0 hR hn hu hq hl)
theorem gd_bald {a : Nat} {i : Int32} (hk : hK h a = 100) (hi : vp_in i (hL h a)) (hdg : decode M.2.2.1 pc = .ok (.baload, 1))
    (kk : Gd C M fr lo h0 o' h' (pc + 1) lv (hV h a i.toNatClampNeg :: st) h) : Gd C M fr lo h0 o' h' pc lv (.int i :: .ref a :: st) h := by
  intro p e s m args below meth c H locs ls hc hR0 hR hn hu hq hl
  obtain ⟨-, he, ha, -⟩ := gd_arr (t := 0) hc.2.2.2.2.2.2.2.2 hR hk (by decide)
  have hlt : i.toNatClampNeg < hL h a := Nat.not_le.mp fun q => hi (Or.inr q)
  exact W.bald hc.1 hc.2.1 he (ha _ _) (fun q => by cases q) (by rw [arrV_size]; exact hi) (by rw [arrV_read _ _ hlt]) rfl rfl hdg (kk p e s m args below meth c H locs ls hc hR0 hR hn hu hq hl)
theorem gd_iald {a : Nat} {i : Int32} (hk : hK h a = 101) (hi : vp_in i (hL h a)) (hdg : decode M.2.2.1 pc = .ok (.iaload, 1))
    (kk : Gd C M fr lo h0 o' h' (pc + 1) lv (hV h a i.toNatClampNeg :: st) h) : Gd C M fr lo h0 o' h' pc lv (.int i :: .ref a :: st) h := by
  intro p e s m args below meth c H locs ls hc hR0 hR hn hu hq hl
  obtain ⟨-, he, ha, -⟩ := gd_arr (t := 1) hc.2.2.2.2.2.2.2.2 hR hk (by decide)
  have hlt : i.toNatClampNeg < hL h a := Nat.not_le.mp fun q => hi (Or.inr q)
  exact W.iald hc.1 hc.2.1 he (ha _ _) (fun q => by cases q) (by rw [arrV_size]; exact hi) (by rw [arrV_read _ _ hlt]) rfl rfl hdg (kk p e s m args below meth c H locs ls hc hR0 hR hn hu hq hl)
theorem gd_lald {a : Nat} {i : Int32} (hk : hK h a = 102) (hi : vp_in i (hL h a)) (hdg : decode M.2.2.1 pc = .ok (.laload, 1))
    (kk : Gd C M fr lo h0 o' h' (pc + 1) lv (hV h a i.toNatClampNeg :: st) h) : Gd C M fr lo h0 o' h' pc lv (.int i :: .ref a :: st) h := by
  intro p e s m args below meth c H locs ls hc hR0 hR hn hu hq hl
  obtain ⟨-, he, ha, -⟩ := gd_arr (t := 2) hc.2.2.2.2.2.2.2.2 hR hk (by decide)
  have hlt : i.toNatClampNeg < hL h a := Nat.not_le.mp fun q => hi (Or.inr q)
  exact W.lald hc.1 hc.2.1 he (ha _ _) (fun q => by cases q) (by rw [arrV_size]; exact hi) (by rw [arrV_read _ _ hlt]) rfl rfl hdg (kk p e s m args below meth c H locs ls hc hR0 hR hn hu hq hl)
theorem gd_aald {a t : Nat} {i : Int32} (hk : hK h a = 100 + t) (ht : t < 6) (hr : (aT t).isReference = true) (hi : vp_in i (hL h a)) (hdg : decode M.2.2.1 pc = .ok (.aaload, 1))
    (kk : Gd C M fr lo h0 o' h' (pc + 1) lv (hV h a i.toNatClampNeg :: st) h) : Gd C M fr lo h0 o' h' pc lv (.int i :: .ref a :: st) h := by
  intro p e s m args below meth c H locs ls hc hR0 hR hn hu hq hl
  obtain ⟨-, he, ha, -⟩ := gd_arr hc.2.2.2.2.2.2.2.2 hR hk ht
  have hlt : i.toNatClampNeg < hL h a := Nat.not_le.mp fun q => hi (Or.inr q)
  exact W.aald hc.1 hc.2.1 he (ha _ _) hr (fun q => by cases q) (by rw [arrV_size]; exact hi) (by rw [arrV_read _ _ hlt]) rfl rfl hdg (kk p e s m args below meth c H locs ls hc hR0 hR hn hu hq hl)
/-- what a store in an array leaves -/
theorem gd_ast {s : State} {H H1 : Heap} {a t j : Nat} {v : Value} (hS : SF C s) (hR : Rel C h H) (hk : hK h a = 100 + t) (ht : t < 6) (e1 : H1[a]? = some ((arrV (cA C t) (hL h a) (hV h a)).setSlot j v)) (e2 : H1.size = H.size) (e3 : ∀ q, q ≠ a → H1[q]? = H[q]?) : Rel C (hSet h a j v) H1 := by
  refine hR.put (by rw [hk]; omega) e2 e3 ⟨fun z => absurd z (by show ¬ hK h a < 100; rw [hk]; omega), fun _ _ => ⟨by show hK h a - 100 < 6; rw [hk]; omega, ?_⟩⟩
  show H1[a]? = some (arrV (cA C (hK h a - 100)) (hL h a) _)
  rw [hk, Nat.add_sub_cancel_left, e1, arrV_store]
  congr 2
  funext q
  by_cases hq : q = j
  · subst hq; simp [updV, hSet, hV]
  · simp [updV, hSet, hV, hq]
theorem gd_locs {locs : List Loc} {a j : Nat} (hq : ∀ l ∈ locs, cB C ≤ l.base) (ha : cB C ≤ a) : ∀ l ∈ locs ++ [(⟨a, j⟩ : Loc)], cB C ≤ l.base := fun z hz => by
  rcases List.mem_append.mp hz with z1 | z1
  · exact hq _ z1
  · rw [List.mem_singleton.mp z1]; exact ha
theorem gd_bast {a : Nat} {i x : Int32} (hk : hK h a = 100) (hi : vp_in i (hL h a)) (hdg : decode M.2.2.1 pc = .ok (.bastore, 1))
    (kk : Gd C M fr lo h0 o' h' (pc + 1) lv st (hSet h a i.toNatClampNeg (.int x.toInt8.toInt32))) : Gd C M fr lo h0 o' h' pc lv (.int x :: .int i :: .ref a :: st) h := by
  intro p e s m args below meth c H locs ls hc hR0 hR hn hu hq hl
  obtain ⟨hb, he, ha, -⟩ := gd_arr (t := 0) hc.2.2.2.2.2.2.2.2 hR hk (by decide)
  exact W.bast hc.1 hc.2.1 he (ha _ _) (fun q => by cases q) (by rw [arrV_size]; exact hi) rfl rfl hdg fun H1 e1 e2 e3 => kk p e s m args below meth c H1 _ ls hc hR0 (gd_ast (t := 0) hc.2.2.2.2.2.2.2.2 hR hk (by decide) e1 e2 e3) hn hu (gd_locs hq hb) hl
theorem gd_iast {a : Nat} {i x : Int32} (hk : hK h a = 101) (hi : vp_in i (hL h a)) (hdg : decode M.2.2.1 pc = .ok (.iastore, 1))
    (kk : Gd C M fr lo h0 o' h' (pc + 1) lv st (hSet h a i.toNatClampNeg (.int x))) : Gd C M fr lo h0 o' h' pc lv (.int x :: .int i :: .ref a :: st) h := by
  intro p e s m args below meth c H locs ls hc hR0 hR hn hu hq hl
  obtain ⟨hb, he, ha, -⟩ := gd_arr (t := 1) hc.2.2.2.2.2.2.2.2 hR hk (by decide)
  exact W.iast hc.1 hc.2.1 he (ha _ _) (fun q => by cases q) (by rw [arrV_size]; exact hi) rfl rfl hdg fun H1 e1 e2 e3 => kk p e s m args below meth c H1 _ ls hc hR0 (gd_ast (t := 1) hc.2.2.2.2.2.2.2.2 hR hk (by decide) e1 e2 e3) hn hu (gd_locs hq hb) hl
theorem gd_last {a : Nat} {i : Int32} {x : Int64} (hk : hK h a = 102) (hi : vp_in i (hL h a)) (hdg : decode M.2.2.1 pc = .ok (.lastore, 1))
    (kk : Gd C M fr lo h0 o' h' (pc + 1) lv st (hSet h a i.toNatClampNeg (.long x))) : Gd C M fr lo h0 o' h' pc lv (.long x :: .int i :: .ref a :: st) h := by
  intro p e s m args below meth c H locs ls hc hR0 hR hn hu hq hl
  obtain ⟨hb, he, ha, -⟩ := gd_arr (t := 2) hc.2.2.2.2.2.2.2.2 hR hk (by decide)
  exact W.last hc.1 hc.2.1 he (ha _ _) (fun q => by cases q) (by rw [arrV_size]; exact hi) rfl rfl hdg fun H1 e1 e2 e3 => kk p e s m args below meth c H1 _ ls hc hR0 (gd_ast (t := 2) hc.2.2.2.2.2.2.2.2 hR hk (by decide) e1 e2 e3) hn hu (gd_locs hq hb) hl
/-- an array of numbers is made -/
theorem gd_newa {t : Nat} {n : Int32} {at_ : ArrayType} (ht : t < 3) (hat : newarray.typeOf at_ = aT t) (hw : Cond.arrayClass (aT t) ∈ gW) (hn0 : ¬ n < 0) (hsz : n.toNatClampNeg ≤ 60000000) (hdg : decode M.2.2.1 pc = .ok (.newarray at_, 2)) (hN' : hN h + 1 ≤ hN h') (hU' : hU h + n.toNatClampNeg ≤ hU h')
    (kk : Gd C M fr lo h0 o' h' (pc + 2) lv (.ref (hN h) :: st) (hNew h (100 + t) n.toNatClampNeg n.toNatClampNeg (fun _ => defaultValue (aT t)))) : Gd C M fr lo h0 o' h' pc lv (.int n :: st) h := by
  intro p e s m args below meth c H locs ls hc hR0 hR hn hu hq hl
  have hts : ∀ w ∈ gW, w.before args s = true := fun w hw => hc.2.2.2.2.2.2.2.2.1 w hw args
  have h6 : t < 6 := by omega
  have hra := (hc.2.2.2.2.2.2.2.2.2.2.1.2 t _ (cTys_at h6)).2
  refine W.newa hc.1 hc.2.1 (by rw [hat]; exact hts _ hw) (g := F0 m pc ls (.int n :: st)) rfl hdg rfl hn0 (by rw [hat]; match t, ht with | 0, _ => (show n.toNatClampNeg * 1 ≤ _; omega) | 1, _ => (show n.toNatClampNeg * 4 ≤ _; omega) | 2, _ => (show n.toNatClampNeg * 8 ≤ _; omega)) (by show hN h - hN h0 + 1 ≤ hN h' - hN h0; omega) (by show hU h - hU h0 + n.toNatClampNeg ≤ hU h' - hU h0; omega) fun cA' kA comp z1 z2 z3 => ?_
  have hcA : cA' = cA C t := by
    rw [hat] at z1
    have h9 : s.vm.findClass ("[" ++ (aT t).toString) = some (cA C t) := by
      match t, ht, hra with
      | 0, _, hra => exact hra
      | 1, _, hra => exact hra
      | 2, _, hra => exact hra
    exact Option.some.inj (z1.symm.trans h9)
  subst hcA
  rw [hat, arrV_new]
  have e1 : hN (hNew h (100 + t) n.toNatClampNeg n.toNatClampNeg (fun _ => defaultValue (aT t))) - hN h0 = hN h - hN h0 + 1 := by show hN h + 1 - hN h0 = _; omega
  have e2 : hU (hNew h (100 + t) n.toNatClampNeg n.toNatClampNeg (fun _ => defaultValue (aT t))) - hU h0 = hU h - hU h0 + n.toNatClampNeg := by show hU h + n.toNatClampNeg - hU h0 = _; omega
  have kk' := kk p e s m args below meth c (H.push (arrV (cA C t) n.toNatClampNeg (fun _ => defaultValue (aT t)))) locs ls hc hR0 (hR.push ⟨fun z => absurd z (by simp [hNew, hK]), fun _ _ => ⟨by simp [hNew, hK]; omega, ?_⟩⟩) (by show hN h0 ≤ hN h + 1; omega) (by show hU h0 ≤ hU h + n.toNatClampNeg; omega) hq hl
  · rw [e1, e2] at kk'
    rw [hR.1]
    exact kk'
  · have e9 : (H.push (arrV (cA C t) n.toNatClampNeg (fun _ => defaultValue (aT t))))[hN h]? = some (arrV (cA C t) n.toNatClampNeg (fun _ => defaultValue (aT t))) := by rw [← hR.1]; simp
    rw [e9]
    simp [hNew, hK, hL, hV]
/-! returns -/
theorem xb_ret {p : Program} {l : Launch} {e : Env} {R : Room} {s : State} {m : MethodId} {args : Array Value} {below : List Frame} {meth : Method} {c : Code} {H : Heap} {locs : List Loc} {cells slots : Nat} {Qc : Array Value → State → Outcome → State → Prop} {free : Addr → Prop} {g : JFrame} {mc ms : Nat}
    (k : W p l e R s m args below meth c H locs cells slots (MQ below Qc args s mc ms free) g) : W p l e R s m args below meth c H locs cells slots (xb_MQ below Qc args s mc ms free) g := by
  intro T hT X
  obtain ⟨t, a1, o, b1, b2, b3, L, b4, b5⟩ := k T hT X
  exact ⟨t, a1, o, b1, b2, b3, b4.2.1, L, b4.2.2, b5⟩
theorem gd_iret {v : Int32} {ty : FieldType} (hr : M.2.2.2.2.1 = some ty) (hnr : narrow ty (.int v) = .int v) (hdg : decode M.2.2.1 pc = .ok (.ireturn, 1)) : Gd C M fr lo h0 (.inl (some (.int v))) h pc lv [.int v] h := by
  intro p e s m args below meth c H locs ls hc hR0 hR hn hu hq hl
  exact xb_ret (W.zret hc.1 hc.2.1 (hc.2.2.2.1.trans hr) hnr (fun t ht _ => ⟨by rw [ht]; exact hR, rfl⟩) hq hdg hc.2.2.2.2.1)
theorem gd_lret {v : Int64} (hr : M.2.2.2.2.1 = some .long) (hdg : decode M.2.2.1 pc = .ok (.lreturn, 1)) : Gd C M fr lo h0 (.inl (some (.long v))) h pc lv [.long v] h := by
  intro p e s m args below meth c H locs ls hc hR0 hR hn hu hq hl
  exact xb_ret (W.lret hc.1 hc.2.1 (hc.2.2.2.1.trans hr) (fun t ht _ => ⟨by rw [ht]; exact hR, rfl⟩) hq hdg hc.2.2.2.2.1)
theorem gd_vret (hr : M.2.2.2.2.1 = none) (hdg : decode M.2.2.1 pc = .ok (.return_, 1)) : Gd C M fr lo h0 (.inl none) h pc lv [] h := by
  intro p e s m args below meth c H locs ls hc hR0 hR hn hu hq hl
  exact xb_ret (W.vret hc.1 hc.2.1 (hc.2.2.2.1.trans hr) (fun t ht _ => ⟨by rw [ht]; exact hR, rfl⟩) hq hdg hc.2.2.2.2.1)
theorem gd_aret {v : Value} {rt : FieldType} (hr : M.2.2.2.2.1 = some rt) (hrt : (∃ n, rt = .object n) ∨ ∃ t, rt = .array t) (hv : v = .null ∨ ∃ a, v = .ref a) (hdg : decode M.2.2.1 pc = .ok (.areturn, 1)) : Gd C M fr lo h0 (.inl (some v)) h pc lv [v] h := by
  intro p e s m args below meth c H locs ls hc hR0 hR hn hu hq hl
  exact xb_ret (W.aret hc.1 hc.2.1 (hc.2.2.2.1.trans hr) hrt hv (fun t ht _ => ⟨by rw [ht]; exact hR, rfl⟩) hq hdg hc.2.2.2.2.1)
/-! an exception stands over the frame: of the kind kd (16: the reference's own, at a; 200 and on: one of the JDK's, wherever) -/
def XI (h : Hp) (kd a : Nat) (s : State) (H : Heap) (q : Nat) : Prop := (kd = 16 ∧ q = a ∧ hK h a = 16) ∨ (200 ≤ kd ∧ ExC (kd - 200) s H q)
def Gx (C : Cx) (M : Mi) (fr lo : Nat) (h0 : Hp) (o' : Out) (h' : Hp) (pc : Nat) (lv : List (Nat × Value)) (st : List Value) (h : Hp) (kd a : Nat) : Prop :=
  ∀ (p : Program) (e : Env) (s : State) (m : MethodId) (args : Array Value) (below : List Frame) (meth : Method) (c : Code) (H : Heap) (locs : List Loc) (ls : Array Slot) (q : Nat),
    Ctx C M p s m meth c → Rel C h0 s.heap → Rel C h H → hN h0 ≤ hN h → hU h0 ≤ hU h → (∀ l ∈ locs, cB C ≤ l.base) → lv_has ls M.2.2.2.1 lv → XI h kd a s H q →
    vx_W p (cL C) e (RmOf fr lo h0 h') s m args below meth c H locs (hN h - hN h0) (hU h - hU h0) (xb_MQ below (QO C o' h') args s (hN h' - hN h0) (hU h' - hU h0) (fun q => cB C ≤ q)) (F0 m pc ls st) q
theorem gx_out {kd a : Nat} (hh : ∀ q ∈ M.2.2.2.2.2, ¬ (q.1 ≤ pc ∧ pc < q.2.1)) : Gx C M fr lo h0 (.inr (kd, a)) h pc lv st h kd a := by
  intro p e s m args below meth c H locs ls q hc hR0 hR hn hu hq hl hx
  refine xb_out (fun x hx => ?_) hc.2.2.2.2.1 (fun t ht hW => ⟨by rw [ht]; exact hR, q, rfl, ?_⟩) hq (Nat.le_refl _) (Nat.le_refl _)
  · have h1 := hh (xb_hh x) (by rw [← hc.2.2.2.2.2.1]; exact List.mem_map_of_mem hx)
    simp only [covers, xb_hh] at h1 ⊢
    by_cases e1 : x.startPc ≤ pc
    · by_cases e2 : pc < x.endPc
      · exact absurd ⟨e1, e2⟩ h1
      · simp [e2]
    · simp [e1]
  · rw [ht]; exact hx
theorem gx_table {c : Code} {a b d f : Nat} (h : c.exceptionTable.toList.map xb_hh = [(a, b, d, f)]) : ∃ x, c.exceptionTable.toList = [x] ∧ x.startPc = a ∧ x.endPc = b ∧ x.handlerPc = d ∧ x.catchType = f := by
  cases hl : c.exceptionTable.toList with
  | nil => rw [hl] at h; cases h
  | cons x t =>
    cases t with
    | cons y t => rw [hl] at h; simp at h
    | nil =>
      rw [hl] at h
      simp [xb_hh] at h
      exact ⟨x, rfl, h.1, h.2.1, h.2.2.1, h.2.2.2⟩
theorem gx_catch16 {a s0 e0 hpc ct : Nat} (hh : M.2.2.2.2.2 = [(s0, e0, hpc, ct)]) (h1 : s0 ≤ pc) (h2 : pc < e0) (h3 : ct ≠ 0) (hw : Cond.classLink M.1 ct "PathHouseModel$Stop" ∈ gW)
    (kk : Gd C M fr lo h0 o' h' hpc lv [.ref a] h) : Gx C M fr lo h0 o' h' pc lv st h 16 a := by
  intro p e s m args below meth c H locs ls q hc hR0 hR hn hu hq hl hx
  obtain ⟨x, x1, x2, x3, x4, x5⟩ := gx_table (hc.2.2.2.2.2.1.trans hh)
  rcases hx with ⟨-, rfl, hk⟩ | ⟨h9, -⟩
  · obtain ⟨-, -, hcell⟩ := hR.2.2.2 q (by rw [hk]; decide)
    obtain ⟨r, hr, cell, q1, q2, q3, -⟩ := hcell.1 (by rw [hk]; decide)
    rw [hk] at hr q2
    obtain ⟨-, hfc, -⟩ := hc.2.2.2.2.2.2.2.2.2.2.1.1 15 _ hr
    have hr9 : r.1 = "PathHouseModel$Stop" := by have : r = (RX14, TX14, 8) := Option.some.inj (hr.symm.trans rfl); rw [this]; rfl
    rw [hr9] at hfc
    subst x4
    exact xb_catch hc.2.2.2.2.2.2.1 (suf := []) x1 (by simp [covers, x2, x3, h1, h2]) (by rw [x5]; exact h3) (by rw [x5]; exact hc.2.2.2.2.2.2.2.2.1 _ hw args) (hc.2.2.2.2.2.2.2.2.2.2.2.1 ("PathHouseModel$Stop", "PathHouseModel$Stop") (by simp [cWl])) q1 q3 (by rw [q2]; exact hfc) (kk p e s m args below meth c H locs ls hc hR0 hR hn hu hq hl)
  · omega
theorem lv_less {ls : Array Slot} {n : Nat} {l l' : List (Nat × Value)} (h : lv_has ls n l) (hs : ∀ q ∈ l', q ∈ l) : lv_has ls n l' := ⟨h.1, h.2.1, fun q hq => h.2.2 q (hs q hq)⟩
/-- caught, and put away where nobody looks -/
theorem gx_catchX {e9 a s0 e0 hpc ct k : Nat} (he : e9 < 3) (hh : M.2.2.2.2.2 = [(s0, e0, hpc, ct)]) (h1 : s0 ≤ pc) (h2 : pc < e0) (h3 : ct ≠ 0) (hw : Cond.classLink M.1 ct (exN e9) ∈ gW) (hkn : k < M.2.2.2.1)
    (hdg : (∃ k4 : Fin 4, decode M.2.2.1 hpc = .ok (.astore_n k4, 1) ∧ (k4 : Nat) = k ∧ pc' = hpc + 1) ∨ (decode M.2.2.1 hpc = .ok (.astore k, 2) ∧ pc' = hpc + 2))
    (kk : Gd C M fr lo h0 o' h' pc' (lv.filter (fun q => !(q.1 == k) && !(q.1 + 1 == k && q.2.category == 2))) [] h) : Gx C M fr lo h0 o' h' pc lv st h (200 + e9) a := by
  intro p e s m args below meth c H locs ls q hc hR0 hR hn hu hq hl hx
  obtain ⟨x, x1, x2, x3, x4, x5⟩ := gx_table (hc.2.2.2.2.2.1.trans hh)
  rcases hx with ⟨h9, -⟩ | ⟨-, ce, q1, q3, hfc⟩
  · omega
  · rw [Nat.add_sub_cancel_left] at hfc
    subst x4
    refine xb_catch hc.2.2.2.2.2.2.1 (suf := []) x1 (by simp [covers, x2, x3, h1, h2]) (by rw [x5]; exact h3) (by rw [x5]; exact hc.2.2.2.2.2.2.2.2.1 _ hw args) (hc.2.2.2.2.2.2.2.2.2.2.2.1 (exN e9, exN e9) (by match e9, he with | 0, _ => simp [cWl, exN] | 1, _ => simp [cWl, exN] | 2, _ => simp [cWl, exN])) q1 q3 hfc ?_
    rcases hdg with ⟨k4, d1, d2, rfl⟩ | ⟨d1, rfl⟩
    · exact lv_astore_n hc.1 hc.2.1 d1 d2 hl hkn rfl (fun ls hl => kk p e s m args below meth c H locs ls hc hR0 hR hn hu hq (lv_less hl (fun q hq => List.mem_cons_of_mem _ hq)))
    · exact lv_astore hc.1 hc.2.1 d1 hl hkn rfl (fun ls hl => kk p e s m args below meth c H locs ls hc hR0 hR hn hu hq (lv_less hl (fun q hq => List.mem_cons_of_mem _ hq)))
theorem gd_athrow {a : Nat} (hk : hK h a = 16) (hdg : decode M.2.2.1 pc = .ok (.athrow, 1)) (kk : Gx C M fr lo h0 o' h' pc lv st h 16 a) : Gd C M fr lo h0 o' h' pc lv (.ref a :: st) h := by
  intro p e s m args below meth c H locs ls hc hR0 hR hn hu hq hl
  intro T hT X
  obtain ⟨t, a1, b1⟩ := kk p e s m args below meth c H locs ls a hc hR0 hR hn hu hq hl (Or.inl ⟨rfl, rfl, hk⟩) T hT X
  refine ⟨t, ?_, b1⟩
  have hdg' : decode c.code pc = .ok (.athrow, 1) := by rw [hc.2.1]; exact hdg
  jvm_step X.here [hc.1, hdg', athrow.wp_sem]
  exact a1
end GR
end
section
/-! CALLS -/
/-- the callee's contract, over the abstract heap: from h with the arguments as it ends in o with heap h1 -/
def CM (C : Cx) (fr lo : Nat) (y : MethodName) (cw : Cond) (as : List Value) (h : Hp) (o : Out) (h1 : Hp) : Prop :=
  xb_Met (cL C) y cw (RmOf fr lo h h1) (fun v U => v = as.toArray ∧ SF C U ∧ Rel C h U.heap) (QO C o h1) (hN h1 - hN h) (hU h1 - hU h) (fun q => cB C ≤ q)
/-- what the walk goes on with behind a call -/
def Aft (C : Cx) (M : Mi) (fr lo : Nat) (h0 : Hp) (o' : Out) (h' : Hp) (pc : Nat) (lv : List (Nat × Value)) (rest : List Value) (o : Out) (h1 : Hp) : Prop := match o with
  | .inl v => Gd C M fr lo h0 o' h' (pc + 3) lv (v.toList ++ rest) h1
  | .inr (kd, a) => Gx C M fr lo h0 o' h' pc lv rest h1 kd a
section GC
variable {C : Cx} {M : Mi} {h0 h h' h1 : Hp} {fr lo fr' lo' : Nat} {o o' : Out} {pc pc' : Nat} {lv lv' : List (Nat × Value)} {st st' rest : List Value}
/-- behind the invoking instruction's own part -/
theorem gd_callB {p : Program} {e : Env} {s : State} {m : MethodId} {args : Array Value} {below : List Frame} {meth : Method} {c : Code} {locs : List Loc} {ls : Array Slot} {T : State} {vm₁ : Vm} {mk : MethodId} {ig : Instr} {as : List Value} {y : MethodName} {cw : Cond} {bytes : ByteArray} {maxL : Nat} {ret : Option FieldType} {hh : List (Nat × Nat × Nat × Nat)}
    (hM : CM C fr' lo' y cw as h o h1) (his : xb_Is y cw bytes maxL ret hh) (hcw : cw ∈ gW) (hini : Cond.initialized y.cls ∈ gW) (hfr : fr' + 1 ≤ fr) (hlo : 8 + (maxL + 11) + lo' ≤ lo)
    (hn1 : hN h ≤ hN h1) (hu1 : hU h ≤ hU h1) (hn2 : hN h1 ≤ hN h') (hu2 : hU h1 ≤ hU h')
    (hc : Ctx C M p s m meth c) (hR0 : Rel C h0 s.heap) (hR : Rel C h T.heap) (hn : hN h0 ≤ hN h) (hu : hU h0 ≤ hU h) (hq : ∀ l ∈ locs, cB C ≤ l.base) (hl : lv_has ls M.2.2.2.1 lv)
    (X₁ : Stand p (cL C) e (RmOf fr lo h0 h') s m args below meth c (T.setVm vm₁) locs (hN h - hN h0) (hU h - hU h0)) (hnamed : (T.setVm vm₁).methodNamed? y = some mk)
    (hdg : decode M.2.2.1 pc = .ok (ig, 3)) (hW : (rest.map fun v => v.category).sum ≤ 8)
    (kk : Aft C M fr lo h0 o' h' pc lv rest o h1) {G : State}
    (hstep : ∀ target, (∀ acts, Steps p.tables e below (doInvoke e ((T.setVm vm₁).setTop (F0 m pc ls rest)) acts mk as.toArray).1 target) → Steps p.tables e below G target) :
    ∃ t, Steps p.tables e below G t ∧ xb_MQ below (QO C o' h') args s (hN h' - hN h0) (hU h' - hU h0) (fun q => cB C ≤ q) t := by
  have hSF : SF C (T.setVm vm₁) := SF.warm X₁.warmed hc.2.2.2.2.2.2.2.2
  have hw8 : 2 * (F0 m pc ls rest).monitorRoom + ((F0 m pc ls rest).stack.map fun v => v.category).sum ≤ 8 := lv_room (m := m) (pc := pc) (ls := ls) (rest := rest) hW
  have ec : hN h - hN h0 + (hN h1 - hN h) = hN h1 - hN h0 := by omega
  have es : hU h - hU h0 + (hU h1 - hU h) = hU h1 - hU h0 := by omega
  rcases xb_back (R := RmOf fr lo h0 h') (W9 := 8) (len := 3) (ig := ig) hM his rfl rfl hfr hlo (g := F0 m pc ls rest) X₁ rfl (hl.1.trans hc.2.2.1.symm) (by rw [hc.2.1]; exact hdg) hw8 hnamed (by show hN h - hN h0 + (hN h1 - hN h) ≤ hN h' - hN h0; omega) (by show hU h - hU h0 + (hU h1 - hU h) ≤ hU h' - hU h0; omega) (hSF.1 cw hcw _) (hSF.1 _ hini _) ⟨rfl, SF.warm (s := T.setVm vm₁) (U := (T.setVm vm₁).calling (F0 m pc ls rest) mk as.toArray) (State.WarmedH.refl (T.setVm vm₁)) hSF, hR⟩ with ⟨v, t, U', L, X', hL, e1, e2, hqo, hsteps⟩ | ⟨q, t, U', L, X', hL, e1, e2, hqo, hsteps⟩
  · rw [ec, es] at X'
    obtain ⟨hR1, hm⟩ := hqo
    have hlocs : ∀ z ∈ locs ++ L, cB C ≤ z.base := fun z hz => (List.mem_append.mp hz).elim (hq z) (hL z)
    cases o with
    | inl v0 =>
      cases hm
      obtain ⟨t2, a1, b1⟩ := kk p e s m args below meth c U'.heap (locs ++ L) ls hc hR0 (by rw [e1]; exact hR1) (Nat.le_trans hn hn1) (Nat.le_trans hu hu1) hlocs hl U' rfl X'
      exact ⟨t2, hstep t2 fun acts => by rw [doInvoke_state]; exact hsteps.trans a1, b1⟩
    | inr x =>
      obtain ⟨q, hm, -⟩ := hm
      cases hm
  · rw [ec, es] at X'
    obtain ⟨hR1, hm⟩ := hqo
    have hlocs : ∀ z ∈ locs ++ L, cB C ≤ z.base := fun z hz => (List.mem_append.mp hz).elim (hq z) (hL z)
    cases o with
    | inl v0 => cases hm
    | inr x =>
      obtain ⟨kd, a⟩ := x
      obtain ⟨q9, hm, hx⟩ := hm
      cases hm
      have hx' : XI h1 kd a s U'.heap q := by
        rcases hx with z | ⟨z1, ce, z2, z3, z4⟩
        · exact Or.inl z
        · refine Or.inr ⟨z1, ce, by rw [e1]; exact z2, z3, ?_⟩
          have z5 : (T.setVm vm₁).vm.findClass (exN (kd - 200)) = some ce.cls := z4
          rw [X₁.warmed.alike.findClass] at z5
          exact z5
      obtain ⟨t2, a1, b1⟩ := kk p e s m args below meth c U'.heap (locs ++ L) ls q hc hR0 (by rw [e1]; exact hR1) (Nat.le_trans hn hn1) (Nat.le_trans hu hu1) hlocs hl hx' U' rfl X'
      exact ⟨t2, hstep t2 fun acts => by rw [doInvoke_state]; exact hsteps.trans a1, b1⟩
def ML (M : Mi) (idx : Nat) (y : MethodName) : Prop := Cond.methodLink M.1 idx y ∈ gW ∨ ∃ host, Cond.methodLinkNest M.1 idx y host ∈ nW
theorem gd_callV {b ci idx : Nat} {r : vw_C} {as : List Value} {y : MethodName} {cw : Cond} {bytes : ByteArray} {maxL : Nat} {ret : Option FieldType} {hh : List (Nat × Nat × Nat × Nat)}
    (hM : CM C fr' lo' y cw (.ref b :: as) h o h1) (his : xb_Is y cw bytes maxL ret hh) (hcw : cw ∈ gW) (hini : Cond.initialized y.cls ∈ gW) (hfr : fr' + 1 ≤ fr) (hlo : 8 + (maxL + 11) + lo' ≤ lo)
    (hn1 : hN h ≤ hN h1) (hu1 : hU h ≤ hU h1) (hn2 : hN h1 ≤ hN h') (hu2 : hU h1 ≤ hU h')
    (hr : vwCl[ci]? = some r) (hci : ci < 99) (hk : hK h b = ci + 1) (hlink : ML M idx y) (hinst : Cond.instanceMethod y ∈ gW) (hsel : Cond.selects r.1 y y ∈ gW) (hy : y.cls ≠ "java/lang/invoke/MethodHandle" ∧ y.cls ≠ "java/lang/invoke/VarHandle")
    (hlen : ∀ sig, parseMethodDescriptor y.desc = some sig → as.length = sig.parameters.length) (hdg : decode M.2.2.1 pc = .ok (.invokevirtual idx, 3)) (hW : (rest.map fun v => v.category).sum ≤ 8)
    (kk : Aft C M fr lo h0 o' h' pc lv rest o h1) : Gd C M fr lo h0 o' h' pc lv (as.reverse ++ .ref b :: rest) h := by
  intro p e s m args below meth c H locs ls hc hR0 hR hn hu hq hl T hT X
  have hts : ∀ w ∈ gW, w.before args s = true := fun w hw => hc.2.2.2.2.2.2.2.2.1 w hw args
  obtain ⟨-, -, hcell⟩ := hR.2.2.2 b (by rw [hk]; omega)
  obtain ⟨r9, hr9, cellB, hcB, hclB, hvB, -⟩ := hcell.1 (by rw [hk]; omega)
  rw [hk, Nat.add_sub_cancel] at hclB
  obtain ⟨-, hfc, -⟩ := hc.2.2.2.2.2.2.2.2.2.2.1.1 ci _ hr
  obtain ⟨mk, methM, hnamed, hmethM, hstM, habM⟩ := Cond.instanceMethod_spec (hts _ hinst)
  obtain ⟨methM', cM, hmethM', -, -, -, -, -, -, hsigM⟩ := his args s mk (hts _ hcw) hnamed
  cases hmethM.symm.trans hmethM'
  obtain ⟨c2, r2, m2, q1, q2, q3, q4, kP, hkP, hkPi⟩ := Cond.selects_spec (hts _ hsel)
  cases hfc.symm.trans q1
  cases (State.methodFound?_of_named hnamed hy).symm.trans q2
  cases hnamed.symm.trans q3
  have hselP : selectMethod e.platform s.vm cellB.cls mk = .method mk := by rw [Launch.admits_selectMethod X.admits, hclB]; exact q4
  have hdg' : decode c.code pc = .ok (.invokevirtual idx, 3) := by rw [hc.2.1]; exact hdg
  rcases hlink with h1 | ⟨host, h1⟩
  · obtain ⟨vm₁, X₁, hstep₁⟩ := X.invokevirtual hc.1 hc.2.2.2.2.2.2.1 (hts _ h1) hnamed hmethM hstM hkP hkPi hy (a := b) (cell := cellB) (by rw [hT]; exact hcB)
      (fun z h => by rw [hvB] at h; cases h) hselP hmethM habM hkP hkPi (g := F0 m pc ls (as.reverse ++ .ref b :: rest)) rfl (argsL := as) (rest := rest) (hlen _ hsigM) rfl hdg'
    exact gd_callB hM his hcw hini hfr hlo hn1 hu1 hn2 hu2 hc hR0 (by rw [hT]; exact hR) hn hu hq hl X₁ (X₁.named hnamed) hdg hW kk hstep₁
  · obtain ⟨vm₁, X₁, hstep₁⟩ := X.invokevirtualNest hc.1 hc.2.2.2.2.2.2.1 (va_Nw.use rfl (hc.2.2.2.2.2.2.2.2.2.1 _ h1)) hnamed hmethM hstM hkP hkPi hy (a := b) (cell := cellB) (by rw [hT]; exact hcB)
      (fun z h => by rw [hvB] at h; cases h) hselP hmethM habM hkP hkPi (g := F0 m pc ls (as.reverse ++ .ref b :: rest)) rfl (argsL := as) (rest := rest) (hlen _ hsigM) rfl hdg'
    exact gd_callB hM his hcw hini hfr hlo hn1 hu1 hn2 hu2 hc hR0 (by rw [hT]; exact hR) hn hu hq hl X₁ (X₁.named hnamed) hdg hW kk hstep₁
theorem gd_callS {idx : Nat} {as : List Value} {y : MethodName} {cw : Cond} {bytes : ByteArray} {maxL : Nat} {ret : Option FieldType} {hh : List (Nat × Nat × Nat × Nat)}
    (hM : CM C fr' lo' y cw as h o h1) (his : xb_Is y cw bytes maxL ret hh) (hcn : ∀ (A : Array Value) (s : State), cw.before A s = true → ∃ mk, s.methodNamed? y = some mk) (hcw : cw ∈ gW) (hini : Cond.initialized y.cls ∈ gW) (hfr : fr' + 1 ≤ fr) (hlo : 8 + (maxL + 11) + lo' ≤ lo)
    (hn1 : hN h ≤ hN h1) (hu1 : hU h ≤ hU h1) (hn2 : hN h1 ≤ hN h') (hu2 : hU h1 ≤ hU h')
    (hlink : ML M idx y) (hstat : Cond.static y ∈ gW) (hy : y.cls ≠ "java/lang/invoke/MethodHandle" ∧ y.cls ≠ "java/lang/invoke/VarHandle")
    (hlen : ∀ sig, parseMethodDescriptor y.desc = some sig → as.length = sig.parameters.length) (hdg : decode M.2.2.1 pc = .ok (.invokestatic idx, 3)) (hW : (rest.map fun v => v.category).sum ≤ 8)
    (kk : Aft C M fr lo h0 o' h' pc lv rest o h1) : Gd C M fr lo h0 o' h' pc lv (as.reverse ++ rest) h := by
  intro p e s m args below meth c H locs ls hc hR0 hR hn hu hq hl T hT X
  have hts : ∀ w ∈ gW, w.before args s = true := fun w hw => hc.2.2.2.2.2.2.2.2.1 w hw args
  obtain ⟨mk, hnamed⟩ := hcn args s (hts _ hcw)
  obtain ⟨methM, cM, hmethM, -, -, -, -, -, -, hsigM⟩ := his args s mk (hts _ hcw) hnamed
  have hstatic : methM.isStatic = true := Cond.static_spec hnamed hmethM (hts _ hstat)
  obtain ⟨kP, hkP, -⟩ := className_of_methodNamed hnamed
  have hinitP : kP.init = .initialized := Cond.initialized_spec (findClass_of_methodNamed hnamed) hkP (hts _ hini)
  have hdg' : decode c.code pc = .ok (.invokestatic idx, 3) := by rw [hc.2.1]; exact hdg
  rcases hlink with h1 | ⟨host, h1⟩
  · obtain ⟨vm₁, X₁, hstep₁⟩ := X.invokestatic hc.1 hc.2.2.2.2.2.2.1 (hts _ h1) hnamed hmethM hstatic hkP hinitP hy (g := F0 m pc ls (as.reverse ++ rest)) rfl (argsL := as) (rest := rest) (hlen _ hsigM) rfl hdg'
    exact gd_callB hM his hcw hini hfr hlo hn1 hu1 hn2 hu2 hc hR0 (by rw [hT]; exact hR) hn hu hq hl X₁ (X₁.named hnamed) hdg hW kk hstep₁
  · obtain ⟨vm₁, X₁, hstep₁⟩ := X.invokestaticNest hc.1 hc.2.2.2.2.2.2.1 (va_Nw.use rfl (hc.2.2.2.2.2.2.2.2.2.1 _ h1)) hnamed hmethM hstatic hkP hinitP hy (g := F0 m pc ls (as.reverse ++ rest)) rfl (argsL := as) (rest := rest) (hlen _ hsigM) rfl hdg'
    exact gd_callB hM his hcw hini hfr hlo hn1 hu1 hn2 hu2 hc hR0 (by rw [hT]; exact hR) hn hu hq hl X₁ (X₁.named hnamed) hdg hW kk hstep₁
theorem gd_callI {b idx : Nat} {as : List Value} {y : MethodName} {bytes : ByteArray} {maxL : Nat}
    (hM : CM C fr' lo' y (.code y bytes maxL none) (.ref b :: as) h o h1) (hcw : Cond.code y bytes maxL none ∈ gW) (hini : Cond.initialized y.cls ∈ gW) (hfr : fr' + 1 ≤ fr) (hlo : 8 + (maxL + 11) + lo' ≤ lo)
    (hn1 : hN h ≤ hN h1) (hu1 : hU h ≤ hU h1) (hn2 : hN h1 ≤ hN h') (hu2 : hU h1 ≤ hU h')
    (hlink : ML M idx y) (hname : y.name = "<init>") (hinst : Cond.instanceMethod y ∈ gW) (hy : y.cls ≠ "java/lang/invoke/MethodHandle" ∧ y.cls ≠ "java/lang/invoke/VarHandle")
    (hlen : ∀ sig, parseMethodDescriptor y.desc = some sig → as.length = sig.parameters.length) (hdg : decode M.2.2.1 pc = .ok (.invokespecial idx, 3)) (hW : (rest.map fun v => v.category).sum ≤ 8)
    (kk : Aft C M fr lo h0 o' h' pc lv rest o h1) : Gd C M fr lo h0 o' h' pc lv (as.reverse ++ .ref b :: rest) h := by
  intro p e s m args below meth c H locs ls hc hR0 hR hn hu hq hl T hT X
  have hts : ∀ w ∈ gW, w.before args s = true := fun w hw => hc.2.2.2.2.2.2.2.2.1 w hw args
  have hpl : e.platform.magicAccessors = ({} : Platform).magicAccessors := by rw [X.admits.platform]
  have hdg' : decode c.code pc = .ok (.invokespecial idx, 3) := by rw [hc.2.1]; exact hdg
  rcases hlink with h1 | ⟨host, h1⟩
  · obtain ⟨mk, methM, cM, kP, vm₁, hnamed, -, -, -, -, -, -, -, hW₁, hstep₁⟩ := Steps.initColdArgs (e := e) X.here hc.1 X.warmed hpl hc.2.2.2.2.2.2.1 hname hy (hts _ h1) (hts _ hinst) (hts _ hcw) (f := F0 m pc ls (as.reverse ++ .ref b :: rest)) rfl hlen rfl hdg'
    have X₁ := X.noted hW₁
    exact gd_callB hM xb_is_code hcw hini hfr hlo hn1 hu1 hn2 hu2 hc hR0 (by rw [hT]; exact hR) hn hu hq hl X₁ (X₁.named hnamed) hdg hW kk hstep₁
  · obtain ⟨mk, methM, cM, kP, vm₁, hnamed, -, -, -, -, -, -, -, hW₁, hstep₁⟩ := Steps.initColdArgsNest (e := e) X.here hc.1 X.warmed hpl hc.2.2.2.2.2.2.1 hname hy (va_Nw.use rfl (hc.2.2.2.2.2.2.2.2.2.1 _ h1)) (hts _ hinst) (hts _ hcw) (f := F0 m pc ls (as.reverse ++ .ref b :: rest)) rfl hlen rfl hdg'
    have X₁ := X.noted hW₁
    exact gd_callB hM xb_is_code hcw hini hfr hlo hn1 hu1 hn2 hu2 hc hR0 (by rw [hT]; exact hR) hn hu hq hl X₁ (X₁.named hnamed) hdg hW kk hstep₁
theorem gd_objInit {b idx : Nat} (hlink : Cond.methodLink M.1 idx Lib.objectInit ∈ gW) (hinst : Cond.instanceMethod Lib.objectInit ∈ gW) (hcode : Cond.code Lib.objectInit ⟨#[0xb1]⟩ 1 none ∈ gW) (hfr : 1 ≤ fr) (hlo : 20 ≤ lo) (hW : (rest.map fun v => v.category).sum ≤ 8)
    (hdg : decode M.2.2.1 pc = .ok (.invokespecial idx, 3)) (kk : Gd C M fr lo h0 o' h' (pc + 3) lv rest h) : Gd C M fr lo h0 o' h' pc lv (.ref b :: rest) h := by
  intro p e s m args below meth c H locs ls hc hR0 hR hn hu hq hl
  have hts : ∀ w ∈ gW, w.before args s = true := fun w hw => hc.2.2.2.2.2.2.2.2.1 w hw args
  have hw8 : 2 * (F0 m pc ls rest).monitorRoom + (rest.map fun v => v.category).sum ≤ 8 := lv_room (m := m) (pc := pc) (ls := ls) (rest := rest) hW
  refine W.objInit hc.1 hc.2.1 hc.2.2.2.2.2.2.1 (hts _ hlink) (hts _ hinst) (hts _ hcode) (g := F0 m pc ls (.ref b :: rest)) rfl (hl.1.trans hc.2.2.1.symm) rfl hdg hfr ?_ (kk p e s m args below meth c H locs ls hc hR0 hR hn hu hq hl)
  have h9 : 2 * (F0 m pc ls (.ref b :: rest)).monitorRoom = 2 * (F0 m pc ls rest).monitorRoom := rfl
  show 2 * (F0 m pc ls (.ref b :: rest)).monitorRoom + (rest.map fun v => v.category).sum + 12 ≤ lo
  omega
end GC
/-- a contract out of a walk of the body -/
theorem CM_of {C : Cx} {fr lo : Nat} {y : MethodName} {cw : Cond} {bytes : ByteArray} {maxL : Nat} {ret : Option FieldType} {hh : List (Nat × Nat × Nat × Nat)} {as : List Value} {h : Hp} {o : Out} {h1 : Hp} (hy : plainName y.cls = true) (his : xb_Is y cw bytes maxL ret hh) (hsz : (lg_sl as).length ≤ maxL)
    (k : Gd C (y.cls, y.name, bytes, maxL, ret, hh) fr lo h o h1 0 (lv_args 0 as) [] h) : CM C fr lo y cw as h o h1 := by
  refine xb_ofW hy his ?_
  intro p e s m args below meth c s₁ B hml hht hP
  obtain ⟨rfl, hSF, hR⟩ := hP
  have hl := lv_entry as (n := maxL) hsz
  rw [lg_entry_eq]
  generalize (lg_sl as ++ List.replicate (maxL - (lg_sl as).length) Slot.unset).toArray = ls at hl ⊢
  have k9 := k p e s m as.toArray below meth c s.heap [] ls ⟨B.exec, B.bytes, hml, B.returns, B.notSynchronized, hht, findClass_of_methodNamed B.named, (name_of_methodNamed B.named B.method).1, hSF⟩ hR hR (Nat.le_refl _) (Nat.le_refl _) (fun _ hz => by cases hz) hl
  rw [Nat.sub_self, Nat.sub_self] at k9
  exact k9
end
section
/-! throw new E("text"), the new cell known (after vx_throwS) -/
theorem xb_throwS {p : Program} {l : Launch} {e : Env} {R : Room} {s : State} {m : MethodId} {args : Array Value} {below : List Frame} {meth : Method} {c : Code} {H : Heap} {locs : List Loc} {cells slots : Nat} {free : Addr → Prop} {ls : Array Slot} {rest : List Value} {Qc : Array Value → State → Outcome → State → Prop} {cc : ByteArray} {pc : Nat} (hexec : p.tables.exec = Jvm.exec) (hb : c.code = cc) (hl : l.stackTraces = false) {own cls text : String} {names : List String} {ik is ic mc ms sa : Nat} {A : Nat → Prop}
    (hown : s.vm.findClass own = some m.cls) (hcls : Bundle.fit cls = true) (hnames : ∀ n ∈ names, Bundle.fit n = true)
    (hk : (Cond.classLink own ik cls).before args s = true) (hini : (Cond.initialized cls).before args s = true) (hstr : vk_R own is text sa s) (hat : ∀ w ∈ vx_atS own ic cls names, w.before args s = true)
    (hgood : ∀ w ∈ Cond.classLink own ik cls :: Cond.initialized cls :: vx_atS own ic cls names, vx_ot w = true)
    (hU : vx_Zq Bundle.tN "UNASSIGNED_STACK" Bundle.steD A s s.heap) (hN : vx_Zq Bundle.tN "SUPPRESSED_SENTINEL" Bundle.listD A s s.heap) (hS : va_S A s.heap H locs) (hsize : ls.size = c.maxLocals)
    (d0 : decode cc pc = .ok (.new ik, 3)) (d3 : decode cc (pc + 3) = .ok (.dup, 1)) (d4 : decode cc (pc + 4) = .ok (.ldc is, 2)) (d6 : decode cc (pc + 6) = .ok (.invokespecial ic, 3)) (d9 : decode cc (pc + 9) = .ok (.athrow, 1))
    (hout : ∀ x ∈ c.exceptionTable.toList, covers x (pc + 9) = false)
    (hRframes : names.length + 3 < R.frames) (hRlocals : (rest.map fun v => v.category).sum + (13 * (names.length + 1) + 43) ≤ R.locals) (hRcells : cells + 1 ≤ R.cells) (hRslots : slots + 6 ≤ R.slots) (hlocks : meth.locks = false)
    (hx : ∀ (t : State) (ce : Cell), s.WarmedH t.vm → t.heap.size = H.size + 1 → (∀ q : Nat, q < H.size → t.heap[q]? = H[q]?) → t.heap[H.size]? = some ce → ce.vm = .none → s.vm.findClass cls = some ce.cls → Qc args s (.threw H.size) t)
    (hf : ∀ z ∈ locs, free z.base) (hc : cells + 1 ≤ mc) (hs : slots + 6 ≤ ms) :
    W p l e R s m args below meth c H locs cells slots (xb_MQ below Qc args s mc ms free) (F0 m pc ls rest) := by
  intro T hT X
  have htr : e.platform.stackTraces = false := (show e.platform.stackTraces = l.stackTraces by rw [X.admits.platform]).trans hl
  have Y := vx_rebase X (R' := { frames := R.frames, locals := R.locals, cells := 1, slots := 6 }) (Nat.le_refl _) (Nat.le_refl _) hRcells hRslots
  obtain ⟨s', hA⟩ : ∃ z, z = (T.setVm s.vm).setFrames (.invoking m args :: below) := ⟨_, rfl⟩
  rw [← hA] at Y
  have hvm : s'.vm = s.vm := by rw [hA]; rfl
  have hhp : s'.heap = H := by rw [hA]; exact hT
  have hW0 : s.WarmedH s'.vm := by rw [hvm]; exact State.WarmedH.refl s
  have hat' : ∀ w ∈ vx_atS own ic cls names, w.before args s' = true := fun w hw => vx_ot_at hW0 hvm.symm (hgood w (List.mem_cons_of_mem _ (List.mem_cons_of_mem _ hw))) (hat w hw)
  have hk' : (Cond.classLink own ik cls).before args s' = true := vx_ot_at hW0 hvm.symm (hgood _ List.mem_cons_self) hk
  have hini' : (Cond.initialized cls).before args s' = true := vx_ot_at hW0 hvm.symm (hgood _ (List.mem_cons_of_mem _ List.mem_cons_self)) hini
  have hU' : vx_Zq Bundle.tN "UNASSIGNED_STACK" Bundle.steD A s' s'.heap := by rw [hhp]; exact vx_Zq.moved hW0.alike (hU.kept hS.2.1)
  have hN' : vx_Zq Bundle.tN "SUPPRESSED_SENTINEL" Bundle.listD A s' s'.heap := by rw [hhp]; exact vx_Zq.moved hW0.alike (hN.kept hS.2.1)
  have h : ∀ w ∈ Bundle.ownAtoms own ic cls names, w.before args s' = true := vx_own hat' (vx_isRefq hU'.1) (vx_isRefq hN'.1) hU'.2.word hN'.2.word
  have hown' : s'.vm.findClass own = some m.cls := by rw [hvm]; exact hown
  have hins : (Cond.instantiable cls 6).before args s' = true := h _ (by simp [Bundle.ownAtoms])
  obtain ⟨vm₁, cX, kX, hfX, hkX, -, -, X₁, st1⟩ := Y.newCold hexec (own := own) (C := cls) (index := ik) (n := 6) hown' hk' hins hini'
    (g := F0 m pc ls rest) rfl (by rw [hb]; exact d0) (Nat.le_refl _) (Nat.le_refl _)
  generalize hT1 : (T.setVm vm₁).pushCell { cls := cX, slots := kX.instanceTypes.map defaultValue, vm := .none } = T1 at X₁ st1
  have hcat : (Value.ref T.heap.size).category = 1 := rfl
  have hcellA : T1.heap[T.heap.size]? = some (freshCell cX kX) := by rw [← hT1]; exact State.heap_pushCell_size _ _
  have d3' : decode c.code (pc + 3) = .ok (.dup, 1) := by rw [hb]; exact d3
  have d4' : decode c.code (pc + 4) = .ok (.ldc is, 2) := by rw [hb]; exact d4
  have hstr' : vk_R own is text sa s' := vk_R.warm hW0 hstr
  obtain ⟨U, hsteps, hrun, hend, hW, hsame, ce, hce, hO⟩ := X₁.ctorThrowS hexec htr (own := own) (cls := cls) (names := names) (ic := ic) hown' hcls hnames h (fun x hx => nomatch hx) hfX hkX hcellA (by rw [hhp, hT]; exact Nat.le_refl _) (msg := .ref sa) rfl
    (g := { method := m, pc := pc + 6, locals := ls, stack := .ref sa :: .ref T.heap.size :: .ref T.heap.size :: rest, locked := none }) rfl hsize rfl rfl (rest := rest) rfl
    (by rw [hb]; exact d6) (by rw [hb]; exact d9) hout hRframes (by simp only [List.map_cons, List.sum_cons, hcat]; omega) hlocks
  obtain ⟨f1, f2⟩ := vx_frame hsame
  rw [hhp] at f1 f2
  have hWs : s.WarmedH U.vm := State.WarmedH.trans hW0 hW
  have hcl : s.vm.findClass cls = some ce.cls := by
    have h9 := hO.cls
    rw [hvm] at h9
    exact h9
  have hall : s.sameButNew ({ U with vm := s.vm } : State) locs mc ms := by
    subst hA
    obtain ⟨e1, e2⟩ := hsame
    rw [State.setFrames_setFrames] at e1
    have h2 : (T.setVm s.vm).sameButNew ({ U with vm := s.vm } : State) [] (0 + 1) (0 + 6) := ⟨e1, e2⟩
    have h3 := X.same.trans h2
    rw [List.append_nil] at h3
    exact h3.mono hc hs
  have hsz : U.heap.size = H.size + 1 := by
    have z1 : U.heap.size ≤ s'.heap.size + (0 + 1) := hsame.2.2.1
    have z2 : T.heap.size < U.heap.size := (Array.getElem?_eq_some_iff.mp hce).1
    rw [hhp] at z1
    rw [hT] at z2
    omega
  have hq9 := hx U ce hWs hsz (fun q hq => f2 q hq (fun z hz => nomatch hz)) (by rw [← hT]; exact hce) hO.vm hcl
  rw [← hT] at hq9
  refine ⟨U, ?_, .threw T.heap.size, hrun, hend, hq9, hWs, locs, hall, hf⟩
  refine st1 _ ?_
  show Steps p.tables e below (T1.setTop { method := m, pc := pc + 3, locals := ls, stack := .ref T.heap.size :: rest, locked := none }) _
  jvm_step X₁.here [X₁.here.top, hexec, d3', Value.category]
  exact X₁.ldcString hexec (own := own) (text := text) (index := is) (a := sa) hown' hstr'.1 hstr'.2
    (g := { method := m, pc := pc + 4, locals := ls, stack := .ref T.heap.size :: .ref T.heap.size :: rest, locked := none }) rfl d4' _ hsteps

def exNs : List String := ["java/lang/RuntimeException", "java/lang/Exception"]
/-- the words of a throw new E("text") -/
def TW (M : Mi) (ik is ic e9 sn : Nat) (text : String) : Prop := Cond.classLink M.1 ik (exN e9) ∈ gW ∧ Cond.initialized (exN e9) ∈ gW ∧ (∀ w ∈ (vx_atS M.1 ic (exN e9) exNs).filter goodWord, w ∈ gW) ∧ (∀ w ∈ (vx_atS M.1 ic (exN e9) exNs).filter (fun w => !goodWord w), w ∈ Cond.castable (exN e9) (exN e9) :: dWx) ∧
  (∀ w ∈ Cond.classLink M.1 ik (exN e9) :: Cond.initialized (exN e9) :: vx_atS M.1 ic (exN e9) exNs, vx_ot w = true) ∧ Bundle.fit (exN e9) = true ∧ (∀ n ∈ exNs, Bundle.fit n = true) ∧ (M.1, is, text, sn) ∈ strL ∧ (exN e9, exN e9) ∈ cWl
theorem xs_cast.word {E N : String} {U : State} (h : xs_cast E N U) (A : Array Value) : (Cond.castable E N).before A U = true := by
  obtain ⟨a, b, h1, h2, h3⟩ := h
  simp [Cond.before, Cond.holds, Cond.value, h1, h2, h3]
theorem gd_throwS {C : Cx} {M : Mi} {h0 h : Hp} {fr lo ik is ic e9 sn : Nat} {text : String} {pc : Nat} {lv : List (Nat × Value)} {st : List Value} {f : Nat → Value} (hT : TW M ik is ic e9 sn text) (hh : ∀ q ∈ M.2.2.2.2.2, ¬ (q.1 ≤ pc + 9 ∧ pc + 9 < q.2.1)) (hfr : 6 ≤ fr) (hlo : 100 ≤ lo) (hW : (st.map fun v => v.category).sum ≤ 8)
    (d0 : decode M.2.2.1 pc = .ok (.new ik, 3)) (d3 : decode M.2.2.1 (pc + 3) = .ok (.dup, 1)) (d4 : decode M.2.2.1 (pc + 4) = .ok (.ldc is, 2)) (d6 : decode M.2.2.1 (pc + 6) = .ok (.invokespecial ic, 3)) (d9 : decode M.2.2.1 (pc + 9) = .ok (.athrow, 1)) :
    Gd C M fr lo h0 (.inr (200 + e9, 0)) (hNew h 0 0 6 f) pc lv st h := by
  intro p e s m args below meth c H locs ls hc hR0 hR hn hu hq hl
  obtain ⟨t1, t2, t3, t4, t5, t6, t7, t8, t9⟩ := hT
  have hSF := hc.2.2.2.2.2.2.2.2
  have hts : ∀ w ∈ gW, w.before args s = true := fun w hw => hSF.1 w hw args
  have hold : ∀ q, q < cB C → s.heap[q]? = (cH C)[q]? := hR0.2.2.1
  have hkp : ∀ a : Nat, a < (cH C).size → ¬ cB C ≤ a → s.heap[a]? = (cH C)[a]? := fun a _ ha => hold a (Nat.not_le.mp ha)
  have e1 : hN (hNew h 0 0 6 f) - hN h0 = hN h - hN h0 + 1 := by show hN h + 1 - hN h0 = _; omega
  have e2 : hU (hNew h 0 0 6 f) - hU h0 = hU h - hU h0 + 6 := by show hU h + 6 - hU h0 = _; omega
  refine xb_throwS (A := fun q => cB C ≤ q) (names := exNs) hc.1 hc.2.1 hSF.2.2.2.2.2.1.1 hc.2.2.2.2.2.2.1 t6 t7 (hts _ t1) (hts _ t2) (hSF.2.2.2.2.2.2.1 _ t8)
    (vx_hat (fun w hw => hts w (t3 w hw)) t4 (fun w hw => by
      rcases List.mem_cons.mp hw with rfl | hw
      · exact (hSF.2.2.2.1 _ t9).word args
      · have h9 := hSF.2.2.2.2.2.2.2.2.1 w hw
        simp only [dWx, List.mem_cons, List.not_mem_nil, or_false] at hw
        rcases hw with rfl | rfl | rfl <;> exact va_Nw.use rfl h9)) t5
    (hSF.2.2.2.2.2.1.2.1.kept hkp) (hSF.2.2.2.2.2.1.2.2.kept hkp) ⟨by rw [hR0.1, hR.1]; exact hn, fun q h1 h2 => by rw [hold q (Nat.not_le.mp h2)]; exact hR.2.2.1 q (Nat.not_le.mp h2), hq⟩ (hl.1.trans hc.2.2.1.symm)
    d0 d3 d4 d6 d9 (fun x hx => ?_) (by show 2 + 3 < fr; omega) (by show _ + (13 * (2 + 1) + 43) ≤ lo; omega) (by show hN h - hN h0 + 1 ≤ hN (hNew h 0 0 6 f) - hN h0; omega) (by show hU h - hU h0 + 6 ≤ hU (hNew h 0 0 6 f) - hU h0; omega) hc.2.2.2.2.1 ?_ hq (by omega) (by omega)
  · have h1 := hh (xb_hh x) (by rw [← hc.2.2.2.2.2.1]; exact List.mem_map_of_mem hx)
    simp only [covers, xb_hh] at h1 ⊢
    by_cases e1 : x.startPc ≤ pc + 9
    · by_cases e2 : pc + 9 < x.endPc
      · exact absurd ⟨e1, e2⟩ h1
      · simp [e2]
    · simp [e1]
  · intro t ce hW hsz hk hce hv hcl
    refine ⟨⟨by rw [hsz, hR.1]; rfl, Nat.le_succ_of_le hR.2.1, fun q hlt => ?_, fun b hb => ?_⟩, H.size, rfl, Or.inr ⟨by omega, ce, hce, hv, by rw [Nat.add_sub_cancel_left]; exact hcl⟩⟩
    · rw [hk q (by rw [hR.1]; exact Nat.lt_of_lt_of_le hlt hR.2.1)]; exact hR.2.2.1 q hlt
    · by_cases e : b = hN h
      · exact absurd (by simp [hNew, hK, e]) hb
      · have hb' : hK h b ≠ 0 := by simpa [hNew, hK, e] using hb
        obtain ⟨q1, q2, q3⟩ := hR.2.2.2 b hb'
        refine ⟨q1, Nat.lt_succ_of_lt q2, ?_⟩
        have e1 := q3.kept (H1 := t.heap) (hk b (by rw [hR.1]; exact q2))
        have e2 : hV (hNew h 0 0 6 f) b = hV h b := by funext j; simp [hNew, hV, e]
        have e3 : hK (hNew h 0 0 6 f) b = hK h b := by simp [hNew, hK, e]
        have e4 : hL (hNew h 0 0 6 f) b = hL h b := by simp [hNew, hL, e]
        refine ⟨fun z => ?_, fun z1 z2 => ?_⟩
        · rw [e2, e3]; rw [e3] at z; exact e1.1 z
        · rw [e2, e3, e4]; rw [e3] at z1 z2; exact e1.2 z1 z2
end
section
/-! THE TYPED HEAP, AND THE WEAKEST PRECONDITION OF A CODE TABLE AS A PROPOSITION -/
abbrev SV : Type := Int32 ⊕ Int64 ⊕ Option Nat
def vv : SV → Value
  | .inl x => .int x
  | .inr (.inl y) => .long y
  | .inr (.inr r) => va_rf r
/-- size, slots, kinds, lengths, ints, longs, references -/
abbrev Ht : Type := Nat × Nat × (Nat → Nat) × (Nat → Nat) × (Nat → Nat → Int32) × (Nat → Nat → Int64) × (Nat → Nat → Option Nat)
def tN (t : Ht) : Nat := t.1
def tU (t : Ht) : Nat := t.2.1
def tK (t : Ht) : Nat → Nat := t.2.2.1
def tL (t : Ht) : Nat → Nat := t.2.2.2.1
def tI (t : Ht) : Nat → Nat → Int32 := t.2.2.2.2.1
def tJ (t : Ht) : Nat → Nat → Int64 := t.2.2.2.2.2.1
def tR (t : Ht) : Nat → Nat → Option Nat := t.2.2.2.2.2.2
abbrev tyCl : List (Nat → FieldType) := [tyJx4a65c, tyX0, tyX1, tyX2, tyX3, tyX4, tyX5, tyX6, tyX7, tyX8, tyX9, tyX10, tyX11, tyX12, tyX13, tyX14, tyX15]
def fTy (ci k : Nat) : FieldType := (tyCl.getD ci (fun _ => .int)) k
/-- 0: an int (or smaller), 1: a long, 2: a reference -/
def tyN : FieldType → Nat
  | .long => 1
  | .object _ => 2
  | .array _ => 2
  | _ => 0
def slN (kd k : Nat) : Nat := if kd < 100 then tyN (fTy (kd - 1) k) else if kd < 102 then 0 else if kd = 102 then 1 else 2
def tV (t : Ht) (a k : Nat) : Value := match slN (tK t a) k with
  | 0 => .int (tI t a k)
  | 1 => .long (tJ t a k)
  | _ => va_rf (tR t a k)
def tv (t : Ht) : Hp := (tN t, tU t, tK t, tL t, tV t)
def up2 {α : Type} (f : Nat → Nat → α) (a k : Nat) (x : α) : Nat → Nat → α := fun b j => if b = a ∧ j = k then x else f b j
def sI (t : Ht) (a k : Nat) (x : Int32) : Ht := (tN t, tU t, tK t, tL t, up2 (tI t) a k x, tJ t, tR t)
def sJ (t : Ht) (a k : Nat) (x : Int64) : Ht := (tN t, tU t, tK t, tL t, tI t, up2 (tJ t) a k x, tR t)
def sR (t : Ht) (a k : Nat) (x : Option Nat) : Ht := (tN t, tU t, tK t, tL t, tI t, tJ t, up2 (tR t) a k x)
def up1 {α : Type} (f : Nat → α) (a : Nat) (x : α) : Nat → α := fun b => if b = a then x else f b
/-- a new cell: all 0 and null -/
def tNew (t : Ht) (kd len used : Nat) : Ht := (tN t + 1, tU t + used, up1 (tK t) (tN t) kd, up1 (tL t) (tN t) len, up1 (tI t) (tN t) (fun _ => 0), up1 (tJ t) (tN t) (fun _ => 0), up1 (tR t) (tN t) (fun _ => none))
theorem hSet_tv {t t' : Ht} {a k : Nat} {v : Value} (h1 : tN t' = tN t) (h2 : tU t' = tU t) (h3 : tK t' = tK t) (h4 : tL t' = tL t) (h5 : ∀ b j, tV t' b j = if b = a ∧ j = k then v else tV t b j) : hSet (tv t) a k v = tv t' := by
  unfold hSet tv hN hU hK hL hV
  rw [h1, h2, h3, h4]
  congr 4
  funext b j
  exact (h5 b j).symm
theorem hSet_sI {t : Ht} {a k : Nat} {x : Int32} (h : slN (tK t a) k = 0) : hSet (tv t) a k (.int x) = tv (sI t a k x) := by
  refine hSet_tv rfl rfl rfl rfl (fun b j => ?_)
  by_cases e : b = a ∧ j = k
  · rw [if_pos e, e.1, e.2]; simp [tV, sI, tK, tI, up2] at h ⊢; rw [h]; rfl
  · rw [if_neg e]; unfold tV; simp only [sI, tK, tI, tJ, tR, up2, if_neg e]
theorem hSet_sJ {t : Ht} {a k : Nat} {x : Int64} (h : slN (tK t a) k = 1) : hSet (tv t) a k (.long x) = tv (sJ t a k x) := by
  refine hSet_tv rfl rfl rfl rfl (fun b j => ?_)
  by_cases e : b = a ∧ j = k
  · rw [if_pos e, e.1, e.2]; simp [tV, sJ, tK, tJ, up2] at h ⊢; rw [h]; rfl
  · rw [if_neg e]; unfold tV; simp only [sJ, tK, tI, tJ, tR, up2, if_neg e]
theorem slN_le (kd k : Nat) : slN kd k = 0 ∨ slN kd k = 1 ∨ slN kd k = 2 := by
  unfold slN
  split
  · cases fTy (kd - 1) k <;> simp [tyN]
  · split
    · simp
    · split <;> simp
theorem hSet_sR {t : Ht} {a k : Nat} {x : Option Nat} (h : slN (tK t a) k = 2) : hSet (tv t) a k (va_rf x) = tv (sR t a k x) := by
  refine hSet_tv rfl rfl rfl rfl (fun b j => ?_)
  by_cases e : b = a ∧ j = k
  · rw [if_pos e, e.1, e.2]; simp [tV, sR, tK, tR, up2] at h ⊢; rw [h]; rfl
  · rw [if_neg e]; unfold tV; simp only [sR, tK, tI, tJ, tR, up2, if_neg e]
def dV (n : Nat) : Value := match n with
  | 0 => .int 0
  | 1 => .long 0
  | _ => .null
theorem hNew_tv {t : Ht} {kd len used : Nat} {f : Nat → Value} (hf : ∀ k, f k = dV (slN kd k)) : hNew (tv t) kd len used f = tv (tNew t kd len used) := by
  unfold hNew tv hN hU hK hL hV
  congr 4
  funext b j
  by_cases e : b = tN t
  · subst e
    simp [tV, tNew, tK, tI, tJ, tR, up1, tN, hf j, va_rf, dV]
  · simp only [tN] at e
    simp [tV, tNew, tK, tI, tJ, tR, up1, tN, e]
/-! what the code table of a method is read with -/
abbrev OutT : Type := Option SV ⊕ (Nat × Nat)
def oo : OutT → Out
  | .inl v => .inl (v.map vv)
  | .inr x => .inr x
/-- pools: fields (class, number, 1: this class's own), methods, classes (kind), ints, longs, strings, statics -/
abbrev Pool : Type := List (Nat × Nat × Nat × Nat) × List (Nat × Nat) × List (Nat × Nat) × List (Nat × Int32) × List (Nat × Int64) × List (Nat × Nat) × List (Nat × Nat)
abbrev LV : Type := List (Nat × SV)
def lset1 (lv : LV) (i : Nat) (v : SV) : LV := (i, v) :: lv.filter (fun q => !(q.1 == i) && !(q.1 + 1 == i && (vv q.2).category == 2))
def lset2 (lv : LV) (i : Nat) (v : SV) : LV := (i, v) :: lv.filter (fun q => !(q.1 == i) && (!(q.1 == i + 1) && !(q.1 + 1 == i && (vv q.2).category == 2)))
def ldrop (lv : LV) (i : Nat) : LV := lv.filter (fun q => !(q.1 == i) && !(q.1 + 1 == i && (vv q.2).category == 2))
def onR (r : Option Nat) (f : Nat → Prop) : Prop := match r with
  | some a => f a
  | none => False
def nuR (r : Option Nat) (A : Prop) (B : Nat → Prop) : Prop := match r with
  | none => A
  | some a => B a
def svC : SV → Nat
  | .inr (.inl _) => 2
  | _ => 1
def br (c A B : Prop) : Prop := (c → A) ∧ (¬ c → B)
def tgt (pc : Nat) (off : Int) : Nat := ((pc : Int) + off).toNat

def popI (st : List SV) (f : Int32 → List SV → Prop) : Prop := match st with
  | .inl x :: r => f x r
  | _ => False
def popJ (st : List SV) (f : Int64 → List SV → Prop) : Prop := match st with
  | .inr (.inl x) :: r => f x r
  | _ => False
def popR (st : List SV) (f : Option Nat → List SV → Prop) : Prop := match st with
  | .inr (.inr x) :: r => f x r
  | _ => False
def popN : Nat → List SV → (List SV → List SV → Prop) → Prop
  | 0, st, f => f [] st
  | n + 1, st, f => match st with
    | v :: r => popN n r (fun as r' => f (as ++ [v]) r')
    | [] => False
def svI (x : Int32) : SV := .inl x
def svJ (x : Int64) : SV := .inr (.inl x)
def svR (r : Option Nat) : SV := .inr (.inr r)
/-- what an int field or an int answer of a type takes -/
def okI (ty : FieldType) (x : Int32) : Prop := match ty with
  | .int => True
  | .boolean => x = 0 ∨ x = 1
  | _ => False
def okJ (ty : FieldType) (x : Int32) (P : Prop) : Prop := match ty with
  | .int => P
  | .boolean => (x = 0 ∨ x = 1) ∧ P
  | _ => False
def isFin (ci k : Nat) : Bool := ((vwCl.getD ci ("", fun _ => ("", "", "", false), 0)).2.1 k).2.2.2
def rdS (t : Ht) (a k n : Nat) : SV := match n with
  | 0 => svI (tI t a k)
  | 1 => svJ (tJ t a k)
  | _ => svR (tR t a k)
abbrev nSl : List Nat := [3, 5, 11, 2, 3, 4, 7, 2, 2, 8, 9, 3, 10, 12, 14, 8, 37]
def aKd (a : ArrayType) : Nat := match a with
  | .byte => 0
  | .int => 1
  | .long => 2
  | _ => 99
def aKo (kd : Nat) : Nat := if kd = 3 then 4 else if kd = 8 then 5 else if kd = 300 then 3 else 99
def okA (ka kb : Nat) : Prop := (ka = 104 ∧ kb = 3) ∨ (ka = 105 ∧ kb = 8) ∨ (ka = 103 ∧ (kb = 3 ∨ kb = 9 ∨ kb = 10 ∨ kb = 11))
def gd (b : Bool) (P : Prop) : Prop := match b with
  | true => P
  | false => False
def wgt (st : List SV) : Nat := (st.map svC).sum
def sw (x : Int32) (J : Int → Prop) (D : Prop) : List (Int × Int) → Prop
  | [] => D
  | (k, o) :: r => br (x = Int32.ofInt k) (J o) (sw x J D r)
def swL (lo : Int) : List Int → List (Int × Int)
  | [] => []
  | o :: r => (lo, o) :: swL (lo + 1) r
abbrev Code1 : Type := List (Nat × Instr × Nat)
/-- the method: its code table, its pool, what it returns, whether it is a constructor, its handler (from, to, at, kind) -/
abbrev MT : Type := Code1 × Pool × Option FieldType × Bool × List (Nat × Nat × Nat × Nat)
def rI (v : Option SV) (f : Int32 → Prop) : Prop := match v with
  | some (.inl x) => f x
  | _ => False
def rJ (v : Option SV) (f : Int64 → Prop) : Prop := match v with
  | some (.inr (.inl x)) => f x
  | _ => False
def rR (v : Option SV) (f : Option Nat → Prop) : Prop := match v with
  | some (.inr (.inr x)) => f x
  | _ => False
/-- what comes back: nothing, an int, a long, a reference -/
def retK (rk : Nat) (v : Option SV) (f : List SV → Prop) : Prop := match rk with
  | 0 => v = none ∧ f []
  | 1 => rI v (fun x => f [svI x])
  | 2 => rJ v (fun x => f [svJ x])
  | _ => rR v (fun x => f [svR x])
def aftV (f : Option SV → Ht → Prop) (g : Nat → Nat → Ht → Prop) (o : OutT) (t : Ht) : Prop := match o with
  | .inl v => f v t
  | .inr x => g x.1 x.2 t
section WP
variable (Cal : Nat → List SV → Ht → (OutT → Ht → Prop) → Prop) (mt : List (Nat × Nat × Nat)) (sA : Nat → Nat) (gV : Nat → Option Nat) (sc : Option (Nat × Nat × (Nat → Int32))) (X : MT) (Q : OutT → Ht → Prop) (K : Nat → LV → List SV → Ht → Prop)
def exc (pc : Nat) (lv : LV) (t : Ht) (kd a : Nat) : Prop := match X.2.2.2.2 with
  | [] => Q (.inr (kd, a)) t
  | (s, e, hpc, kd') :: _ => if s ≤ pc ∧ pc < e then
      kd = kd' ∧ (if kd' = 16 then K hpc lv [svR (some a)] t else match X.1.lookup hpc with
        | some (.astore_n k, _) => K (hpc + 1) (ldrop lv k.val) [] t
        | some (.astore k, _) => K (hpc + 2) (ldrop lv k) [] t
        | _ => False)
    else Q (.inr (kd, a)) t
def aft (rk pc : Nat) (lv : LV) (st : List SV) : OutT → Ht → Prop := aftV (fun v t => retK rk v (fun l => K (pc + 3) lv (l ++ st) t)) (fun kd a t => exc X Q K pc lv t kd a)
def ifI (c : ClassFile.Cond) (x y : Int32) (A B : Prop) : Prop := match c with
  | .eq => br (x = y) A B
  | .ne => br (x = y) B A
  | .lt => br (x < y) A B
  | .ge => br (y ≤ x) A B
  | .gt => br (y < x) A B
  | .le => br (x ≤ y) A B
def st1 (i : Instr) (len pc : Nat) (lv : LV) (st : List SV) (t : Ht) : Prop := match i with
  | .aconst_null => K (pc + 1) lv (svR none :: st) t
  | .iconst n => K (pc + 1) lv (svI (Int32.ofInt n) :: st) t
  | .bipush n => K (pc + 2) lv (svI (Int8.ofInt n).toInt32 :: st) t
  | .sipush n => K (pc + 3) lv (svI (Int16.ofInt n).toInt32 :: st) t
  | .lconst n => K (pc + 1) lv (svJ (Int64.ofNat n) :: st) t
  | .ldc idx => match X.2.1.2.2.2.1.lookup idx with
    | some v => K (pc + 2) lv (svI v :: st) t
    | none => match X.2.1.2.2.2.2.2.1.lookup idx with
      | some n => K (pc + 2) lv (svR (some (sA n)) :: st) t
      | none => False
  | .ldc_w idx => match X.2.1.2.2.2.1.lookup idx with
    | some v => K (pc + 3) lv (svI v :: st) t
    | none => False
  | .ldc2_w idx => match X.2.1.2.2.2.2.1.lookup idx with
    | some v => K (pc + 3) lv (svJ v :: st) t
    | none => False
  | .iload k => match lv.lookup k with
    | some (.inl x) => K (pc + 2) lv (svI x :: st) t
    | _ => False
  | .iload_n k => match lv.lookup k.val with
    | some (.inl x) => K (pc + 1) lv (svI x :: st) t
    | _ => False
  | .lload k => match lv.lookup k with
    | some (.inr (.inl x)) => K (pc + 2) lv (svJ x :: st) t
    | _ => False
  | .lload_n k => match lv.lookup k.val with
    | some (.inr (.inl x)) => K (pc + 1) lv (svJ x :: st) t
    | _ => False
  | .aload k => match lv.lookup k with
    | some (.inr (.inr x)) => K (pc + 2) lv (svR x :: st) t
    | _ => False
  | .aload_n k => match lv.lookup k.val with
    | some (.inr (.inr x)) => K (pc + 1) lv (svR x :: st) t
    | _ => False
  | .istore k => popI st fun x st => K (pc + 2) (lset1 lv k (svI x)) st t
  | .istore_n k => popI st fun x st => K (pc + 1) (lset1 lv k.val (svI x)) st t
  | .lstore k => popJ st fun x st => K (pc + 2) (lset2 lv k (svJ x)) st t
  | .lstore_n k => popJ st fun x st => K (pc + 1) (lset2 lv k.val (svJ x)) st t
  | .astore k => popR st fun x st => K (pc + 2) (lset1 lv k (svR x)) st t
  | .astore_n k => popR st fun x st => K (pc + 1) (lset1 lv k.val (svR x)) st t
  | .iinc k n => match lv.lookup k with
    | some (.inl x) => K (pc + 3) (lset1 lv k (svI (x + Int32.ofInt n))) st t
    | _ => False
  | .pop => match st with
    | v :: r => gd (svC v == 1) (K (pc + 1) lv r t)
    | [] => False
  | .dup => match st with
    | v :: r => gd (svC v == 1) (K (pc + 1) lv (v :: v :: r) t)
    | [] => False
  | .dup2 => match st with
    | .inr (.inl y) :: r => K (pc + 1) lv (svJ y :: svJ y :: r) t
    | v :: w :: r => gd (svC v == 1 && svC w == 1) (K (pc + 1) lv (v :: w :: v :: w :: r) t)
    | _ => False
  | .iadd => popI st fun y st => popI st fun x st => K (pc + 1) lv (svI (x + y) :: st) t
  | .isub => popI st fun y st => popI st fun x st => K (pc + 1) lv (svI (x - y) :: st) t
  | .imul => popI st fun y st => popI st fun x st => K (pc + 1) lv (svI (x * y) :: st) t
  | .iand => popI st fun y st => popI st fun x st => K (pc + 1) lv (svI (x &&& y) :: st) t
  | .ior => popI st fun y st => popI st fun x st => K (pc + 1) lv (svI (x ||| y) :: st) t
  | .ixor => popI st fun y st => popI st fun x st => K (pc + 1) lv (svI (x ^^^ y) :: st) t
  | .ishl => popI st fun y st => popI st fun x st => K (pc + 1) lv (svI (x <<< (y &&& 31)) :: st) t
  | .ishr => popI st fun y st => popI st fun x st => K (pc + 1) lv (svI (x >>> (y &&& 31)) :: st) t
  | .idiv => popI st fun y st => popI st fun x st => ¬ y = 0 ∧ K (pc + 1) lv (svI (x / y) :: st) t
  | .irem => popI st fun y st => popI st fun x st => ¬ y = 0 ∧ K (pc + 1) lv (svI (x - x / y * y) :: st) t
  | .ladd => popJ st fun y st => popJ st fun x st => K (pc + 1) lv (svJ (x + y) :: st) t
  | .lsub => popJ st fun y st => popJ st fun x st => K (pc + 1) lv (svJ (x - y) :: st) t
  | .lmul => popJ st fun y st => popJ st fun x st => K (pc + 1) lv (svJ (x * y) :: st) t
  | .ldiv => popJ st fun y st => popJ st fun x st => ¬ y = 0 ∧ K (pc + 1) lv (svJ (x / y) :: st) t
  | .lrem => popJ st fun y st => popJ st fun x st => ¬ y = 0 ∧ K (pc + 1) lv (svJ (x - x / y * y) :: st) t
  | .lneg => popJ st fun x st => K (pc + 1) lv (svJ (-x) :: st) t
  | .lcmp => popJ st fun y st => popJ st fun x st => K (pc + 1) lv (svI (lg_cmp x y) :: st) t
  | .i2l => popI st fun x st => K (pc + 1) lv (svJ x.toInt64 :: st) t
  | .l2i => popJ st fun x st => K (pc + 1) lv (svI x.toInt32 :: st) t
  | .i2b => popI st fun x st => K (pc + 1) lv (svI x.toInt8.toInt32 :: st) t
  | .ifCond c off => popI st fun x st => ifI c x 0 (K (tgt pc off) lv st t) (K (pc + 3) lv st t)
  | .if_icmp c off => popI st fun y st => popI st fun x st => ifI c x y (K (tgt pc off) lv st t) (K (pc + 3) lv st t)
  | .ifnull off => popR st fun r st => nuR r (K (tgt pc off) lv st t) (fun _ => K (pc + 3) lv st t)
  | .ifnonnull off => popR st fun r st => nuR r (K (pc + 3) lv st t) (fun _ => K (tgt pc off) lv st t)
  | .goto off => K (tgt pc off) lv st t
  | .tableswitch d lo hi offs => popI st fun x st => sw x (fun o => K (tgt pc o) lv st t) (K (tgt pc d) lv st t) (swL lo offs.toList)
  | .lookupswitch d ps => popI st fun x st => sw x (fun o => K (tgt pc o) lv st t) (K (tgt pc d) lv st t) ps.toList
  | .getfield idx => popR st fun r st => onR r fun a => match X.2.1.1.lookup idx with
    | some (ci, k, _) => tK t a = ci + 1 ∧ K (pc + 3) lv (rdS t a k (tyN (fTy ci k)) :: st) t
    | none => False
  | .putfield idx => match st with
    | v :: st => popR st fun r st => onR r fun a => match X.2.1.1.lookup idx with
      | some (ci, k, w) => tK t a = ci + 1 ∧ gd (!isFin ci k || (w == 1 && X.2.2.2.1)) (match tyN (fTy ci k), v with
        | 0, .inl x => okJ (fTy ci k) x (K (pc + 3) lv st (sI t a k x))
        | 1, .inr (.inl x) => K (pc + 3) lv st (sJ t a k x)
        | 2, .inr (.inr x) => K (pc + 3) lv st (sR t a k x)
        | _, _ => False)
      | none => False
    | [] => False
  | .arraylength => match sc with
    | none => popR st fun r st => onR r fun a => 100 ≤ tK t a ∧ tK t a < 106 ∧ K (pc + 1) lv (svI (nI (tL t a)) :: st) t
    | some s9 => popR st fun r st => onR r fun a => a = s9.1 ∧ K (pc + 1) lv (svI (nI s9.2.1) :: st) t
  | .baload => popI st fun j st => popR st fun r st => onR r fun a => tK t a = 100 ∧ vp_in j (tL t a) ∧ K (pc + 1) lv (svI (tI t a j.toNatClampNeg) :: st) t
  | .iaload => match sc with
    | none => popI st fun j st => popR st fun r st => onR r fun a => tK t a = 101 ∧ vp_in j (tL t a) ∧ K (pc + 1) lv (svI (tI t a j.toNatClampNeg) :: st) t
    | some s9 => popI st fun j st => popR st fun r st => onR r fun a => a = s9.1 ∧ vp_in j s9.2.1 ∧ K (pc + 1) lv (svI (s9.2.2 j.toNatClampNeg) :: st) t
  | .laload => popI st fun j st => popR st fun r st => onR r fun a => tK t a = 102 ∧ vp_in j (tL t a) ∧ K (pc + 1) lv (svJ (tJ t a j.toNatClampNeg) :: st) t
  | .aaload => popI st fun j st => popR st fun r st => onR r fun a => 103 ≤ tK t a ∧ tK t a < 106 ∧ vp_in j (tL t a) ∧ K (pc + 1) lv (svR (tR t a j.toNatClampNeg) :: st) t
  | .bastore => popI st fun x st => popI st fun j st => popR st fun r st => onR r fun a => tK t a = 100 ∧ vp_in j (tL t a) ∧ K (pc + 1) lv st (sI t a j.toNatClampNeg x.toInt8.toInt32)
  | .iastore => popI st fun x st => popI st fun j st => popR st fun r st => onR r fun a => tK t a = 101 ∧ vp_in j (tL t a) ∧ K (pc + 1) lv st (sI t a j.toNatClampNeg x)
  | .lastore => popJ st fun x st => popI st fun j st => popR st fun r st => onR r fun a => tK t a = 102 ∧ vp_in j (tL t a) ∧ K (pc + 1) lv st (sJ t a j.toNatClampNeg x)
  | .newarray at_ => popI st fun n st => gd (decide (aKd at_ < 3)) (¬ n < 0 ∧ n.toNatClampNeg ≤ 60000000 ∧ K (pc + 2) lv (svR (some (tN t)) :: st) (tNew t (100 + aKd at_) n.toNatClampNeg n.toNatClampNeg))
  | .new idx => match X.2.1.2.2.1.lookup idx with
    | some kd => if kd < 100 then K (pc + 3) lv (svR (some (tN t)) :: st) (tNew t kd 0 (nSl.getD (kd - 1) 0)) else
      gd (decide (wgt st ≤ 8) && X.2.2.2.2.isEmpty) (match X.1.lookup (pc + 3), X.1.lookup (pc + 4), X.1.lookup (pc + 6), X.1.lookup (pc + 9) with
      | some (.dup, _), some (.ldc _, _), some (.invokespecial _, _), some (.athrow, _) => Q (.inr (kd, 0)) (tNew t 0 0 6)
      | _, _, _, _ => False)
    | none => False
  | .getstatic idx => match X.2.1.2.2.2.2.2.2.lookup idx with
    | some g => K (pc + 3) lv (svR (gV g) :: st) t
    | none => False
  | .anewarray idx => popI st fun n st => match X.2.1.2.2.1.lookup idx with
    | some kd => gd (decide (3 ≤ aKo kd) && decide (aKo kd < 6)) (¬ n < 0 ∧ n.toNatClampNeg ≤ 60000000 ∧ K (pc + 3) lv (svR (some (tN t)) :: st) (tNew t (100 + aKo kd) n.toNatClampNeg n.toNatClampNeg))
    | none => False
  | .aastore => popR st fun v st => popI st fun j st => popR st fun r st => onR r fun a => 103 ≤ tK t a ∧ tK t a < 106 ∧ vp_in j (tL t a) ∧ nuR v True (fun b => okA (tK t a) (tK t b)) ∧ K (pc + 1) lv st (sR t a j.toNatClampNeg v)
  | .checkcast idx => match X.2.1.2.2.1.lookup idx with
    | some kd => gd (kd == 3 || kd == 9 || kd == 10 || kd == 11) (popR st fun r st => nuR r (K (pc + 3) lv (svR none :: st) t) (fun a => tK t a = kd ∧ K (pc + 3) lv (svR (some a) :: st) t))
    | none => False
  | .invokevirtual idx => match X.2.1.2.1.lookup idx with
    | some j => match mt[j]? with
      | some (na, ci, rk) => popN na st fun as st => popR st fun r st => onR r fun b => gd (decide (ci < 99) && decide (wgt st ≤ 8)) (tK t b = ci + 1 ∧ Cal j (svR (some b) :: as) t (aft X Q K rk pc lv st))
      | none => False
    | none => False
  | .invokestatic idx => match X.2.1.2.1.lookup idx with
    | some j => match mt[j]? with
      | some (na, ci, rk) => popN na st fun as st => gd (ci == 1000 && decide (wgt st ≤ 8)) (Cal j as t (aft X Q K rk pc lv st))
      | none => False
    | none => False
  | .invokespecial idx => match X.2.1.2.1.lookup idx with
    | some j => if j = 9999 then popR st fun r st => onR r fun _ => gd (decide (wgt st ≤ 8)) (K (pc + 3) lv st t) else match mt[j]? with
      | some (na, ci, rk) => popN na st fun as st => popR st fun r st => onR r fun b => gd (ci == 2000 && decide (wgt st ≤ 8)) (Cal j (svR (some b) :: as) t (aft X Q K rk pc lv st))
      | none => False
    | none => False
  | .athrow => popR st fun r st => onR r fun a => tK t a = 16 ∧ exc X Q K pc lv t 16 a
  | .ireturn => popI st fun x r => gd r.isEmpty (match X.2.2.1 with
    | some ty => okJ ty x (Q (.inl (some (svI x))) t)
    | none => False)
  | .lreturn => popJ st fun x r => gd r.isEmpty (match X.2.2.1 with
    | some .long => Q (.inl (some (svJ x))) t
    | _ => False)
  | .areturn => popR st fun x r => gd r.isEmpty (match X.2.2.1 with
    | some (.object _) => Q (.inl (some (svR x))) t
    | some (.array _) => Q (.inl (some (svR x))) t
    | _ => False)
  | .return_ => gd st.isEmpty (match X.2.2.1 with
    | none => Q (.inl none) t
    | _ => False)
  | _ => False
end WP
/-- wp with cut points: n instructions at the most -/
def wpc (Cal : Nat → List SV → Ht → (OutT → Ht → Prop) → Prop) (mt : List (Nat × Nat × Nat)) (sA : Nat → Nat) (gV : Nat → Option Nat) (sc : Option (Nat × Nat × (Nat → Int32))) (X : MT) (Q : OutT → Ht → Prop) (cut : List Nat) (Kc : Nat → LV → List SV → Ht → Prop) : Nat → Nat → LV → List SV → Ht → Prop
  | 0, _, _, _, _ => False
  | n + 1, pc, lv, st, t => match X.1.lookup pc with
    | some (i, len) => st1 Cal mt sA gV sc X Q (fun pc' lv' st' t' => if pc' ∈ cut then Kc pc' lv' st' t' else wpc Cal mt sA gV sc X Q cut Kc n pc' lv' st' t') i len pc lv st t
    | none => False
end
section
/-! wp IS SOUND -/
abbrev ME : Type := MethodName × Cond × ByteArray × Nat × Option FieldType × List (Nat × Nat × Nat × Nat)
def frD (d : Nat) : Nat := d + 8
def loD (d : Nat) : Nat := 45 * d + 120
def CalG (C : Cx) (mtab : List ME) (d : Nat) (j : Nat) (as : List SV) (t : Ht) (Post : OutT → Ht → Prop) : Prop :=
  ∃ q : ME, mtab[j]? = some q ∧ ∃ (o : OutT) (t1 : Ht), Post o t1 ∧ tN t ≤ tN t1 ∧ tU t ≤ tU t1 ∧ CM C (frD d) (loD d) q.1 q.2.1 (as.map vv) (tv t) (oo o) (tv t1)
def fv (q : Nat × SV) : Nat × Value := (q.1, vv q.2)
def WG (C : Cx) (M : Mi) (d : Nat) (t0 : Ht) (Q : OutT → Ht → Prop) (pc : Nat) (lv : LV) (st : List SV) (t : Ht) : Prop :=
  ∃ (o : OutT) (t' : Ht), Q o t' ∧ tN t ≤ tN t' ∧ tU t ≤ tU t' ∧ Gd C M (frD d) (loD d) (tv t0) (oo o) (tv t') pc (lv.map fv) (st.map vv) (tv t)
def ilenOK (i : Instr) (len : Nat) : Bool := match i with
  | .tableswitch .. => true
  | .lookupswitch .. => true
  | .bipush _ => len == 2
  | .sipush _ => len == 3
  | .ldc _ => len == 2
  | .ldc_w _ => len == 3
  | .ldc2_w _ => len == 3
  | .iload _ => len == 2
  | .lload _ => len == 2
  | .aload _ => len == 2
  | .istore _ => len == 2
  | .lstore _ => len == 2
  | .astore _ => len == 2
  | .iinc _ _ => len == 3
  | .ifCond _ _ => len == 3
  | .if_icmp _ _ => len == 3
  | .ifnull _ => len == 3
  | .ifnonnull _ => len == 3
  | .goto _ => len == 3
  | .getfield _ => len == 3
  | .putfield _ => len == 3
  | .getstatic _ => len == 3
  | .new _ => len == 3
  | .newarray _ => len == 2
  | .anewarray _ => len == 3
  | .checkcast _ => len == 3
  | .invokevirtual _ => len == 3
  | .invokestatic _ => len == 3
  | .invokespecial _ => len == 3
  | _ => len == 1
def stoOK (i : Instr) (nL : Nat) : Bool := match i with
  | .istore k => k < nL
  | .lstore k => k + 1 < nL
  | .astore k => k < nL
  | .istore_n k => k.val < nL
  | .lstore_n k => k.val + 1 < nL
  | .astore_n k => k.val < nL
  | .iinc k _ => k < nL
  | _ => true
def tgtOK (pc : Nat) (i : Instr) : Bool := match i with
  | .ifCond _ off => 0 ≤ (pc : Int) + off
  | .if_icmp _ off => 0 ≤ (pc : Int) + off
  | .ifnull off => 0 ≤ (pc : Int) + off
  | .ifnonnull off => 0 ≤ (pc : Int) + off
  | .goto off => 0 ≤ (pc : Int) + off
  | .tableswitch d lo hi offs => 0 ≤ (pc : Int) + d && offs.toList.all (fun o => 0 ≤ (pc : Int) + o) && decide (hi = lo + offs.size - 1) && decide (-2147483648 ≤ lo) && decide (hi ≤ 2147483647)
  | .lookupswitch d ps => 0 ≤ (pc : Int) + d && ps.toList.all (fun o => 0 ≤ (pc : Int) + o.2) && ((ps.toList.zip (ps.toList.drop 1)).all (fun (a, next) => a.1 < next.1)) && ps.toList.all (fun o => decide (-2147483648 ≤ o.1) && decide (o.1 ≤ 2147483647))
  | _ => true
def EOK (q : ME) (na : Nat) : Prop := xb_Is q.1 q.2.1 q.2.2.1 q.2.2.2.1 q.2.2.2.2.1 q.2.2.2.2.2 ∧ (∀ (A : Array Value) (s : State), q.2.1.before A s = true → ∃ mk, s.methodNamed? q.1 = some mk) ∧ q.2.1 ∈ gW ∧ Cond.initialized q.1.cls ∈ gW ∧
  (q.1.cls ≠ "java/lang/invoke/MethodHandle" ∧ q.1.cls ≠ "java/lang/invoke/VarHandle") ∧ (∀ sig, parseMethodDescriptor q.1.desc = some sig → na = sig.parameters.length) ∧ q.2.2.2.1 ≤ 26
def kindOK (q : ME) (ci : Nat) : Prop :=
  (ci < 99 → Cond.instanceMethod q.1 ∈ gW ∧ ∃ r : vw_C, vwCl[ci]? = some r ∧ Cond.selects r.1 q.1 q.1 ∈ gW) ∧ (ci = 1000 → Cond.static q.1 ∈ gW) ∧ (ci = 2000 → Cond.instanceMethod q.1 ∈ gW ∧ q.1.name = "<init>" ∧ q.2.1 = .code q.1 q.2.2.1 q.2.2.2.1 none)
def noFl : FieldType → Bool
  | .float => false
  | .double => false
  | _ => true
def clOK (ci : Nat) (r : vw_C) : Prop := vwCl[ci]? = some r ∧ (∀ w ∈ u_ws r.1 r.2.1 r.2.2, w ∈ gW) ∧ (∀ k, k < r.2.2 → parseFieldDescriptor (r.2.1 k).2.2.1 = some (fTy ci k)) ∧ (∀ a, a < r.2.2 → ∀ b, b < r.2.2 → a ≠ b → (r.2.1 a).2.1 ≠ (r.2.1 b).2.1) ∧ (∀ k, k < r.2.2 → noFl (fTy ci k) = true)
/-- the pool of a class, and the methods of the table -/
def PoolOK (own : String) (P : Pool) (mtab : List ME) (mt : List (Nat × Nat × Nat)) : Prop :=
  (∀ idx ci k w, P.1.lookup idx = some (ci, k, w) → ci < 17 ∧ ∃ r : vw_C, clOK ci r ∧ k < r.2.2 ∧ (Cond.fieldLink own idx (r.2.1 k).1 (r.2.1 k).2.1 (r.2.1 k).2.2.1 ∈ gW ∨ ∃ host, Cond.fieldLinkNest own idx (r.2.1 k).1 (r.2.1 k).2.1 (r.2.1 k).2.2.1 host ∈ nW) ∧ (w = 1 → (r.2.1 k).1 = own ∧ Cond.fieldLink own idx (r.2.1 k).1 (r.2.1 k).2.1 (r.2.1 k).2.2.1 ∈ gW)) ∧
  (∀ idx j, P.2.1.lookup idx = some j → (j = 9999 ∧ mt[9999]? = none ∧ Cond.methodLink own idx Lib.objectInit ∈ gW ∧ Cond.instanceMethod Lib.objectInit ∈ gW ∧ Cond.code Lib.objectInit ⟨#[0xb1]⟩ 1 none ∈ gW) ∨ (j ≠ 9999 ∧ ∃ (q : ME) (na ci rk : Nat), mtab[j]? = some q ∧ mt[j]? = some (na, ci, rk) ∧ EOK q na ∧ kindOK q ci ∧ (Cond.methodLink own idx q.1 ∈ gW ∨ ∃ host, Cond.methodLinkNest own idx q.1 host ∈ nW))) ∧
  (∀ idx kd, P.2.2.1.lookup idx = some kd → (kd < 100 → 1 ≤ kd ∧ ∃ r : vw_C, clOK (kd - 1) r ∧ Cond.classLink own idx r.1 ∈ gW ∧ Cond.instantiable r.1 (nSl.getD (kd - 1) 0) ∈ gW ∧ Cond.initialized r.1 ∈ gW) ∧ (kd = 300 → Cond.classLink own idx "java/lang/Object" ∈ gW)) ∧
  (∀ idx v, P.2.2.2.1.lookup idx = some v → Cond.constant own idx v ∈ gW) ∧ (∀ idx v, P.2.2.2.2.1.lookup idx = some v → Cond.constantLong own idx v ∈ gW) ∧
  (∀ idx n, P.2.2.2.2.2.1.lookup idx = some n → ∃ tx, (own, idx, tx, n) ∈ strL) ∧ (∀ idx g, P.2.2.2.2.2.2.lookup idx = some g → ∃ c n dsc, (c, n, dsc, g) ∈ stL ∧ Cond.fieldLink own idx c n dsc ∈ gW)
/-- a method's code table is its code -/
def CodeOK (M : Mi) (X : MT) : Prop :=
  (∀ pc i len, X.1.lookup pc = some (i, len) → decode M.2.2.1 pc = .ok (i, len) ∧ ilenOK i len = true ∧ stoOK i M.2.2.2.1 = true ∧ tgtOK pc i = true) ∧ X.2.2.1 = M.2.2.2.2.1 ∧ (X.2.2.2.1 = true → M.2.1 = "<init>") ∧
  ((M.2.2.2.2.2 = [] ∧ X.2.2.2.2 = []) ∨ ∃ s e hpc ct kd, M.2.2.2.2.2 = [(s, e, hpc, ct)] ∧ X.2.2.2.2 = [(s, e, hpc, kd)] ∧ ct ≠ 0 ∧ ((kd = 16 ∧ Cond.classLink M.1 ct "PathHouseModel$Stop" ∈ gW) ∨ ∃ e9, e9 < 3 ∧ kd = 200 + e9 ∧ Cond.classLink M.1 ct (exN e9) ∈ gW)) ∧
  (∀ pc ik l0 kd is l4 ic l6, X.1.lookup pc = some (.new ik, l0) → X.2.1.2.2.1.lookup ik = some kd → ¬ kd < 100 → X.1.lookup (pc + 4) = some (.ldc is, l4) → X.1.lookup (pc + 6) = some (.invokespecial ic, l6) → ∃ e9 sn text, e9 < 3 ∧ kd = 200 + e9 ∧ TW M ik is ic e9 sn text)
section SO
theorem lk_mem {lv : LV} {k : Nat} {v : SV} (h : lv.lookup k = some v) : (k, v) ∈ lv := by
  induction lv with
  | nil => cases h
  | cons q r ih =>
    obtain ⟨a, b⟩ := q
    rw [List.lookup_cons] at h
    by_cases e : k = a
    · subst e
      simp at h
      rw [h]
      exact List.mem_cons_self
    · have e' : (k == a) = false := by simp [e]
      rw [e'] at h
      exact List.mem_cons_of_mem _ (ih h)
theorem lk_at {lv : LV} {k n : Nat} {v : SV} {ls : Array Slot} (h : lv.lookup k = some v) (hl : lv_has ls n (lv.map fv)) : ls[k]? = some (.val (vv v)) := hl.2.2 (k, vv v) (List.mem_map.mpr ⟨_, lk_mem h, rfl⟩)
theorem fmap_filter {lv : LV} {p : Nat × SV → Bool} {p' : Nat × Value → Bool} (h : ∀ q, p' (fv q) = p q) : (lv.map fv).filter p' = (lv.filter p).map fv := by
  rw [List.filter_map]
  congr 1
  exact List.filter_congr (fun q _ => h q)
theorem lset1_map {lv : LV} {i : Nat} {v : SV} : (i, vv v) :: (lv.map fv).filter (fun q => !(q.1 == i) && !(q.1 + 1 == i && q.2.category == 2)) = (lset1 lv i v).map fv := by
  rw [fmap_filter (p := fun q => !(q.1 == i) && !(q.1 + 1 == i && (vv q.2).category == 2)) (fun _ => rfl)]
  rfl
theorem lset2_map {lv : LV} {i : Nat} {v : SV} : (i, vv v) :: (lv.map fv).filter (fun q => !(q.1 == i) && (!(q.1 == i + 1) && !(q.1 + 1 == i && q.2.category == 2))) = (lset2 lv i v).map fv := by
  rw [fmap_filter (p := fun q => !(q.1 == i) && (!(q.1 == i + 1) && !(q.1 + 1 == i && (vv q.2).category == 2))) (fun _ => rfl)]
  rfl
theorem popI_of {st : List SV} {f : Int32 → List SV → Prop} (h : popI st f) : ∃ x r, st = svI x :: r ∧ f x r := by
  unfold popI at h
  split at h
  · exact ⟨_, _, rfl, h⟩
  · exact h.elim
theorem popJ_of {st : List SV} {f : Int64 → List SV → Prop} (h : popJ st f) : ∃ x r, st = svJ x :: r ∧ f x r := by
  unfold popJ at h
  split at h
  · exact ⟨_, _, rfl, h⟩
  · exact h.elim
theorem popR_of {st : List SV} {f : Option Nat → List SV → Prop} (h : popR st f) : ∃ x r, st = svR x :: r ∧ f x r := by
  unfold popR at h
  split at h
  · exact ⟨_, _, rfl, h⟩
  · exact h.elim
theorem onR_of {r : Option Nat} {f : Nat → Prop} (h : onR r f) : ∃ a, r = some a ∧ f a := by
  cases r with
  | none => exact h.elim
  | some a => exact ⟨a, rfl, h⟩
theorem popN_of : ∀ (n : Nat) {st : List SV} {f : List SV → List SV → Prop}, popN n st f → ∃ as r, as.length = n ∧ st = as.reverse ++ r ∧ f as r
  | 0, st, f, h => ⟨[], st, rfl, rfl, h⟩
  | n + 1, st, f, h => by
    unfold popN at h
    cases st with
    | nil => exact h.elim
    | cons v r =>
      obtain ⟨as, r', h1, h2, h3⟩ := popN_of n h
      exact ⟨as ++ [v], r', by simp [h1], by simp [h2], h3⟩
theorem wgt_cat (st : List SV) : ((st.map vv).map fun v => v.category).sum = wgt st := by
  unfold wgt
  rw [List.map_map]
  congr 1
  apply List.map_congr_left
  intro v _
  rcases v with x | x | x
  · rfl
  · rfl
  · cases x <;> rfl
theorem svC_cat {v : SV} (h : svC v = 1) : (vv v).category = 1 := by
  rcases v with x | x | x
  · rfl
  · cases h
  · cases x <;> rfl
theorem tgt_ok {pc : Nat} {off : Int} (h : 0 ≤ (pc : Int) + off) : (pc : Int) + off = (tgt pc off : Nat) := by
  unfold tgt
  omega
end SO
end
section
/-! one instruction -/
section S1
variable {C : Cx} {M : Mi} {X : MT} {mtab : List ME} {mt : List (Nat × Nat × Nat)} {d : Nat} {t0 t : Ht} {Q : OutT → Ht → Prop} {K : Nat → LV → List SV → Ht → Prop} {pc pc' len : Nat} {lv lv' : LV} {st st' : List SV}
theorem wg_step (f : ∀ {p : Program} {l : Launch} {e : Env} {R : Room} {s : State} {m : MethodId} {args : Array Value} {below : List Frame} {meth : Method} {c : Code} {H : Heap} {locs : List Loc} {cells slots : Nat} {Q : State → Prop} {ls : Array Slot}, p.tables.exec = Jvm.exec → c.code = M.2.2.1 → lv_has ls M.2.2.2.1 (lv.map fv) →
      W p l e R s m args below meth c H locs cells slots Q (F0 m pc' ls (st'.map vv)) → W p l e R s m args below meth c H locs cells slots Q (F0 m pc ls (st.map vv)))
    (k : WG C M d t0 Q pc' lv st' t) : WG C M d t0 Q pc lv st t := by
  obtain ⟨o, t', hq, h1, h2, g⟩ := k
  exact ⟨o, t', hq, h1, h2, gd_step f g⟩
theorem wg_stepL (f : ∀ {p : Program} {l : Launch} {e : Env} {R : Room} {s : State} {m : MethodId} {args : Array Value} {below : List Frame} {meth : Method} {c : Code} {H : Heap} {locs : List Loc} {cells slots : Nat} {Q : State → Prop} {ls : Array Slot}, p.tables.exec = Jvm.exec → c.code = M.2.2.1 → lv_has ls M.2.2.2.1 (lv.map fv) →
      (∀ ls : Array Slot, lv_has ls M.2.2.2.1 (lv'.map fv) → W p l e R s m args below meth c H locs cells slots Q (F0 m pc' ls (st'.map vv))) → W p l e R s m args below meth c H locs cells slots Q (F0 m pc ls (st.map vv)))
    (k : WG C M d t0 Q pc' lv' st' t) : WG C M d t0 Q pc lv st t := by
  obtain ⟨o, t', hq, h1, h2, g⟩ := k
  exact ⟨o, t', hq, h1, h2, gd_stepL f g⟩
theorem wg_stepC (f : ∀ {p : Program} {l : Launch} {e : Env} {R : Room} {s : State} {m : MethodId} {args : Array Value} {below : List Frame} {meth : Method} {c : Code} {H : Heap} {locs : List Loc} {cells slots : Nat} {Q : State → Prop} {ls : Array Slot}, p.tables.exec = Jvm.exec → c.code = M.2.2.1 → s.vm.findClass M.1 = some m.cls → (∀ w ∈ gW, w.before args s = true) →
      W p l e R s m args below meth c H locs cells slots Q (F0 m pc' ls (st'.map vv)) → W p l e R s m args below meth c H locs cells slots Q (F0 m pc ls (st.map vv)))
    (k : WG C M d t0 Q pc' lv st' t) : WG C M d t0 Q pc lv st t := by
  obtain ⟨o, t', hq, h1, h2, g⟩ := k
  exact ⟨o, t', hq, h1, h2, gd_stepC f g⟩
/-- two roads: the outcome is that of the road that is taken -/
theorem wg_br {c : Prop} {pc1 pc2 : Nat} {st1 st2 : List SV} (f : ∀ {p : Program} {l : Launch} {e : Env} {R : Room} {s : State} {m : MethodId} {args : Array Value} {below : List Frame} {meth : Method} {c9 : Code} {H : Heap} {locs : List Loc} {cells slots : Nat} {Q : State → Prop} {ls : Array Slot}, p.tables.exec = Jvm.exec → c9.code = M.2.2.1 →
      (c → W p l e R s m args below meth c9 H locs cells slots Q (F0 m pc1 ls (st1.map vv))) → (¬ c → W p l e R s m args below meth c9 H locs cells slots Q (F0 m pc2 ls (st2.map vv))) → W p l e R s m args below meth c9 H locs cells slots Q (F0 m pc ls (st.map vv)))
    (k1 : c → WG C M d t0 Q pc1 lv st1 t) (k2 : ¬ c → WG C M d t0 Q pc2 lv st2 t) : WG C M d t0 Q pc lv st t := by
  by_cases hc : c
  · exact wg_step (fun hx hb _ k => f hx hb (fun _ => k) (fun z => absurd hc z)) (k1 hc)
  · exact wg_step (fun hx hb _ k => f hx hb (fun z => absurd z hc) (fun _ => k)) (k2 hc)
theorem wg_ifI {c : ClassFile.Cond} {x y : Int32} {off : Int} {A B : Prop} (hdg : decode M.2.2.1 pc = .ok (.if_icmp c off, 3)) (ht : 0 ≤ (pc : Int) + off) (h : ifI c x y A B) (hA : A → WG C M d t0 Q (tgt pc off) lv st t) (hB : B → WG C M d t0 Q (pc + 3) lv st t) : WG C M d t0 Q pc lv (svI y :: svI x :: st) t := by
  have e := tgt_ok ht
  cases c with
  | eq => exact wg_br (c := x = y) (fun hx hb k1 k2 => lv_icmp_eq hx hb hdg e k1 k2) (fun z => hA (h.1 z)) (fun z => hB (h.2 z))
  | ne => exact wg_br (c := x = y) (fun hx hb k1 k2 => lv_icmp_ne hx hb hdg e k2 k1) (fun z => hB (h.1 z)) (fun z => hA (h.2 z))
  | lt => exact wg_br (c := x < y) (fun hx hb k1 k2 => lv_icmp_lt hx hb hdg e k1 k2) (fun z => hA (h.1 z)) (fun z => hB (h.2 z))
  | ge => exact wg_br (c := y ≤ x) (fun hx hb k1 k2 => lv_icmp_ge hx hb hdg e k1 k2) (fun z => hA (h.1 z)) (fun z => hB (h.2 z))
  | gt => exact wg_br (c := y < x) (fun hx hb k1 k2 => lv_icmp_gt hx hb hdg e k1 k2) (fun z => hA (h.1 z)) (fun z => hB (h.2 z))
  | le => exact wg_br (c := x ≤ y) (fun hx hb k1 k2 => lv_icmp_le hx hb hdg e k1 k2) (fun z => hA (h.1 z)) (fun z => hB (h.2 z))
theorem wg_if0 {c : ClassFile.Cond} {x : Int32} {off : Int} {A B : Prop} (hdg : decode M.2.2.1 pc = .ok (.ifCond c off, 3)) (ht : 0 ≤ (pc : Int) + off) (h : ifI c x 0 A B) (hA : A → WG C M d t0 Q (tgt pc off) lv st t) (hB : B → WG C M d t0 Q (pc + 3) lv st t) : WG C M d t0 Q pc lv (svI x :: st) t := by
  have e := tgt_ok ht
  cases c with
  | eq => exact wg_br (c := x = 0) (fun hx hb k1 k2 => lv_if_eq hx hb hdg e k1 k2) (fun z => hA (h.1 z)) (fun z => hB (h.2 z))
  | ne => exact wg_br (c := x = 0) (fun hx hb k1 k2 => lv_if_ne hx hb hdg e k2 k1) (fun z => hB (h.1 z)) (fun z => hA (h.2 z))
  | lt => exact wg_br (c := x < 0) (fun hx hb k1 k2 => lv_if_lt hx hb hdg e k1 k2) (fun z => hA (h.1 z)) (fun z => hB (h.2 z))
  | ge => exact wg_br (c := 0 ≤ x) (fun hx hb k1 k2 => lv_if_ge hx hb hdg e k1 k2) (fun z => hA (h.1 z)) (fun z => hB (h.2 z))
  | gt => exact wg_br (c := 0 < x) (fun hx hb k1 k2 => lv_if_gt hx hb hdg e k1 k2) (fun z => hA (h.1 z)) (fun z => hB (h.2 z))
  | le => exact wg_br (c := x ≤ 0) (fun hx hb k1 k2 => lv_if_le hx hb hdg e k1 k2) (fun z => hA (h.1 z)) (fun z => hB (h.2 z))
/-- a switch: the first pair that names x, else the default -/
theorem sw_of {x : Int32} {J : Int → Prop} {dd : Int} : ∀ (l : List (Int × Int)), (∀ q ∈ l, -2147483648 ≤ q.1 ∧ q.1 ≤ 2147483647) → sw x J (J dd) l → J (Op.lookupswitch.offset l dd x.toInt)
  | [], _, h => h
  | (k, o) :: r, hr, h => by
    obtain ⟨h1, h2⟩ := h
    have hk := hr (k, o) List.mem_cons_self
    have e : (Int32.ofInt k).toInt = k := Int32.toInt_ofInt_of_le hk.1 (by have := hk.2; omega)
    by_cases z : x = Int32.ofInt k
    · have e2 : Op.lookupswitch.offset ((k, o) :: r) dd x.toInt = o := by rw [z, e]; simp [Op.lookupswitch.offset]
      rw [e2]; exact h1 z
    · rw [lv_osw z e]
      exact sw_of r (fun q hq => hr q (List.mem_cons_of_mem _ hq)) (h2 z)
theorem swL_of {x : Int32} {J : Int → Prop} {D : Prop} : ∀ (l : List Int) (lo : Int), -2147483648 ≤ lo → lo + l.length ≤ 2147483648 → sw x J D (swL lo l) → (∃ (i : Nat) (o : Int), l[i]? = some o ∧ x.toInt = lo + i ∧ J o) ∨ ((x.toInt < lo ∨ lo + l.length ≤ x.toInt) ∧ D)
  | [], lo, _, _, h => Or.inr ⟨by simp; omega, h⟩
  | o :: r, lo, h1, h2, h => by
    obtain ⟨k1, k2⟩ := h
    have e : (Int32.ofInt lo).toInt = lo := Int32.toInt_ofInt_of_le h1 (by simp at h2; omega)
    by_cases z : x = Int32.ofInt lo
    · exact Or.inl ⟨0, o, rfl, by rw [z, e]; simp, k1 z⟩
    · have ne : x.toInt ≠ lo := fun e2 => z (Int32.toInt_inj.mp (by rw [e]; exact e2))
      rcases swL_of r (lo + 1) (by omega) (by simp at h2; omega) (k2 z) with ⟨i, o', q1, q2, q3⟩ | ⟨q1, q2⟩
      · exact Or.inl ⟨i + 1, o', q1, by rw [q2]; push_cast; omega, q3⟩
      · refine Or.inr ⟨?_, q2⟩
        simp
        omega
end S1
end
section
/-! arrays of references, casts, constants, statics -/
section GM
variable {C : Cx} {M : Mi} {h0 h h' h1 : Hp} {fr lo fr' lo' : Nat} {o o' : Out} {pc pc' : Nat} {lv lv' : List (Nat × Value)} {st st' rest : List Value}
theorem gd_ldcS {idx n : Nat} {tx : String} (hs : (M.1, idx, tx, n) ∈ strL) (hdg : decode M.2.2.1 pc = .ok (.ldc idx, 2)) (kk : Gd C M fr lo h0 o' h' (pc + 2) lv (.ref (cS C n) :: st) h) : Gd C M fr lo h0 o' h' pc lv st h := by
  intro p e s m args below meth c H locs ls hc hR0 hR hn hu hq hl T hT X
  obtain ⟨t, a1, b1⟩ := kk p e s m args below meth c H locs ls hc hR0 hR hn hu hq hl T hT X
  have hstr := hc.2.2.2.2.2.2.2.2.2.2.2.2.2.2.1 _ hs
  exact ⟨t, X.ldcString hc.1 (own := M.1) (text := tx) (index := idx) (a := cS C n) hc.2.2.2.2.2.2.1 hstr.1 hstr.2 (g := F0 m pc ls st) rfl (by rw [hc.2.1]; exact hdg) _ a1, b1⟩
theorem gd_gets {idx g : Nat} {cn n dsc : String} (hs : (cn, n, dsc, g) ∈ stL) (hlink : Cond.fieldLink M.1 idx cn n dsc ∈ gW) (hdg : decode M.2.2.1 pc = .ok (.getstatic idx, 3)) (kk : Gd C M fr lo h0 o' h' (pc + 3) lv (va_rf (cG C g) :: st) h) : Gd C M fr lo h0 o' h' pc lv st h := by
  intro p e s m args below meth c H locs ls hc hR0 hR hn hu hq hl
  have hold : ∀ q, q < cB C → s.heap[q]? = (cH C)[q]? := hR0.2.2.1
  have hZ := (hc.2.2.2.2.2.2.2.2.2.2.2.2.2.2.2.1 _ hs).kept (H1 := s.heap) (fun a _ ha => hold a (Nat.not_le.mp ha))
  exact va_gets hc.1 hc.2.1 hZ ⟨by rw [hR0.1, hR.1]; exact hn, fun q h1 h2 => by rw [hold q (Nat.not_le.mp h2)]; exact hR.2.2.1 q (Nat.not_le.mp h2), hq⟩ hc.2.2.2.2.2.2.1 (hc.2.2.2.2.2.2.2.2.1 _ hlink args) (fun _ z => z) hdg (kk p e s m args below meth c H locs ls hc hR0 hR hn hu hq hl)
theorem gd_cast {idx a ci : Nat} {r : vw_C} (hr : vwCl[ci]? = some r) (hci : ci < 99) (hk : hK h a = ci + 1) (hw : Cond.classLink M.1 idx r.1 ∈ gW) (hcw : (r.1, r.1) ∈ cWl) (hdg : decode M.2.2.1 pc = .ok (.checkcast idx, 3)) (kk : Gd C M fr lo h0 o' h' (pc + 3) lv (.ref a :: st) h) : Gd C M fr lo h0 o' h' pc lv (.ref a :: st) h := by
  intro p e s m args below meth c H locs ls hc hR0 hR hn hu hq hl
  obtain ⟨-, -, hcell⟩ := hR.2.2.2 a (by rw [hk]; omega)
  obtain ⟨r9, hr9, cell, q1, q2, q3, -⟩ := hcell.1 (by rw [hk]; omega)
  rw [hk, Nat.add_sub_cancel] at q2
  obtain ⟨-, hfc, -⟩ := hc.2.2.2.2.2.2.2.2.2.2.1.1 ci _ hr
  exact va_castY hc.1 hc.2.1 hc.2.2.2.2.2.2.1 (hc.2.2.2.2.2.2.2.2.1 _ hw args) ((hc.2.2.2.2.2.2.2.2.2.2.2.1 _ hcw).word #[]) ⟨cell, q1, by rw [q3]; rfl, by rw [q2]; exact hfc⟩ hdg (kk p e s m args below meth c H locs ls hc hR0 hR hn hu hq hl)
theorem gd_anew {t idx : Nat} {n : Int32} {E : String} (ht : t < 6) (hE : aT t = .object E) (hao : E ∈ aOl) (hw : Cond.classLink M.1 idx E ∈ gW) (hn0 : ¬ n < 0) (hsz : n.toNatClampNeg ≤ 60000000) (hdg : decode M.2.2.1 pc = .ok (.anewarray idx, 3)) (hN' : hN h + 1 ≤ hN h') (hU' : hU h + n.toNatClampNeg ≤ hU h')
    (kk : Gd C M fr lo h0 o' h' (pc + 3) lv (.ref (hN h) :: st) (hNew h (100 + t) n.toNatClampNeg n.toNatClampNeg (fun _ => .null))) : Gd C M fr lo h0 o' h' pc lv (.int n :: st) h := by
  intro p e s m args below meth c H locs ls hc hR0 hR hn hu hq hl
  have hra := (hc.2.2.2.2.2.2.2.2.2.2.1.2 t _ (cTys_at ht)).2
  refine W.anew hc.1 hc.2.1 hc.2.2.2.2.2.2.1 (hc.2.2.2.2.2.2.2.2.1 _ hw args) (va_AO.use (hc.2.2.2.2.2.2.2.2.2.2.2.2.1 _ hao)) (g := F0 m pc ls (.int n :: st)) rfl hdg rfl hn0 (by omega) (by show hN h - hN h0 + 1 ≤ hN h' - hN h0; omega) (by show hU h - hU h0 + n.toNatClampNeg ≤ hU h' - hU h0; omega) fun cA' kA comp z1 z2 z3 z4 => ?_
  have hcA : cA' = cA C t := by
    rw [hE] at hra
    obtain ⟨kA9, comp9, -, -, -, h9⟩ := hra
    exact Option.some.inj (z1.symm.trans h9)
  subst hcA
  rw [arrV_new]
  have e1 : hN (hNew h (100 + t) n.toNatClampNeg n.toNatClampNeg (fun _ => Value.null)) - hN h0 = hN h - hN h0 + 1 := by show hN h + 1 - hN h0 = _; omega
  have e2 : hU (hNew h (100 + t) n.toNatClampNeg n.toNatClampNeg (fun _ => Value.null)) - hU h0 = hU h - hU h0 + n.toNatClampNeg := by show hU h + n.toNatClampNeg - hU h0 = _; omega
  have kk' := kk p e s m args below meth c (H.push (arrV (cA C t) n.toNatClampNeg (fun _ => Value.null))) locs ls hc hR0 (hR.push ⟨fun z => absurd z (by simp [hNew, hK]), fun _ _ => ⟨by simp [hNew, hK]; omega, ?_⟩⟩) (by show hN h0 ≤ hN h + 1; omega) (by show hU h0 ≤ hU h + n.toNatClampNeg; omega) hq hl
  · rw [e1, e2] at kk'
    rw [hR.1]
    exact kk'
  · have e9 : (H.push (arrV (cA C t) n.toNatClampNeg (fun _ => Value.null)))[hN h]? = some (arrV (cA C t) n.toNatClampNeg (fun _ => Value.null)) := by rw [← hR.1]; simp
    rw [e9]
    simp [hNew, hK, hL, hV]
theorem gd_aast {a b t ci : Nat} {j : Int32} {E : String} {r : vw_C} (hk : hK h a = 100 + t) (ht : t < 6) (hE : aT t = .object E) (hi : vp_in j (hL h a)) (hr : vwCl[ci]? = some r) (hci : ci < 99) (hkb : hK h b = ci + 1) (hcw : (r.1, E) ∈ cWl) (hdg : decode M.2.2.1 pc = .ok (.aastore, 1))
    (kk : Gd C M fr lo h0 o' h' (pc + 1) lv st (hSet h a j.toNatClampNeg (.ref b))) : Gd C M fr lo h0 o' h' pc lv (.ref b :: .int j :: .ref a :: st) h := by
  intro p e s m args below meth c H locs ls hc hR0 hR hn hu hq hl
  obtain ⟨hb, he, ha, hra⟩ := gd_arr hc.2.2.2.2.2.2.2.2 hR hk ht
  rw [hE] at hra
  obtain ⟨kA, comp, z1, z2, z3, -⟩ := hra
  obtain ⟨-, -, hcell⟩ := hR.2.2.2 b (by rw [hkb]; omega)
  obtain ⟨r9, hr9, cell, q1, q2, q3, -⟩ := hcell.1 (by rw [hkb]; omega)
  rw [hkb, Nat.add_sub_cancel] at q2
  obtain ⟨-, hfc, kC, hkC, -⟩ := hc.2.2.2.2.2.2.2.2.2.2.1.1 ci _ hr
  obtain ⟨c3, c4, w1, w2, w3⟩ := hc.2.2.2.2.2.2.2.2.2.2.2.1 _ hcw
  cases Option.some.inj (w1.symm.trans hfc)
  cases Option.some.inj (w2.symm.trans z3)
  obtain ⟨kcomp, hkcomp, -⟩ := Vm.findClass_spec z3
  have hlt : j.toNatClampNeg < hL h a := Nat.not_le.mp fun q => hi (Or.inr q)
  have h0' : ¬ j < 0 := fun q => hi (Or.inl q)
  exact W.aast hc.1 hc.2.1 he (fun q z => by cases z) (fun z => by cases z) z1 z2 rfl hkcomp ⟨h0', by rw [arrV_size]; exact hlt⟩ q1 (fun q z => by rw [q3] at z; cases z) (by rw [q2]; exact hkC) (by rw [q2]; exact w3) rfl rfl hdg fun H1 e1 e2 e3 => kk p e s m args below meth c H1 _ ls hc hR0 (gd_ast hc.2.2.2.2.2.2.2.2 hR hk ht e1 e2 e3) hn hu (gd_locs hq hb) hl
theorem gd_aastN {a t : Nat} {j : Int32} {E : String} (hk : hK h a = 100 + t) (ht : t < 6) (hE : aT t = .object E) (hi : vp_in j (hL h a)) (hdg : decode M.2.2.1 pc = .ok (.aastore, 1))
    (kk : Gd C M fr lo h0 o' h' (pc + 1) lv st (hSet h a j.toNatClampNeg .null)) : Gd C M fr lo h0 o' h' pc lv (.null :: .int j :: .ref a :: st) h := by
  intro p e s m args below meth c H locs ls hc hR0 hR hn hu hq hl
  obtain ⟨hb, he, ha, hra⟩ := gd_arr hc.2.2.2.2.2.2.2.2 hR hk ht
  exact va_WaastN (C := E) hc.1 hc.2.1 he (by rw [← hE]; exact ha _ _) (fun z => by cases z) (by rw [arrV_size]; exact hi) rfl rfl hdg fun H1 e1 e2 e3 => kk p e s m args below meth c H1 _ ls hc hR0 (gd_ast hc.2.2.2.2.2.2.2.2 hR hk ht e1 e2 e3) hn hu (gd_locs hq hb) hl
theorem gd_sld {j : Int32} (hi : vp_in j (cX C).2.1) (hdg : decode M.2.2.1 pc = .ok (.iaload, 1)) (kk : Gd C M fr lo h0 o' h' (pc + 1) lv (.int ((cX C).2.2 j.toNatClampNeg) :: st) h) : Gd C M fr lo h0 o' h' pc lv (.int j :: .ref (cX C).1 :: st) h := by
  intro p e s m args below meth c H locs ls hc hR0 hR hn hu hq hl
  obtain ⟨z1, z2⟩ := hc.2.2.2.2.2.2.2.2.2.2.2.2.2.2.2.2.2
  obtain ⟨scr, s1, s2, s3, s4, s5⟩ := z2.kept (H1 := H) (hR.2.2.1 _ z1)
  have hlt : j.toNatClampNeg < (cX C).2.1 := Nat.not_le.mp fun q => hi (Or.inr q)
  exact W.iald hc.1 hc.2.1 s1 s2 s3 (by rw [s4]; exact hi) (s5 _ hlt) rfl rfl hdg (kk p e s m args below meth c H locs ls hc hR0 hR hn hu hq hl)
theorem gd_slen (hdg : decode M.2.2.1 pc = .ok (.arraylength, 1)) (kk : Gd C M fr lo h0 o' h' (pc + 1) lv (.int (nI (cX C).2.1) :: st) h) : Gd C M fr lo h0 o' h' pc lv (.ref (cX C).1 :: st) h := by
  intro p e s m args below meth c H locs ls hc hR0 hR hn hu hq hl
  obtain ⟨z1, z2⟩ := hc.2.2.2.2.2.2.2.2.2.2.2.2.2.2.2.2.2
  obtain ⟨scr, s1, s2, s3, s4, s5⟩ := z2.kept (H1 := H) (hR.2.2.1 _ z1)
  exact W.alen hc.1 hc.2.1 s1 s2 (by rw [s4]; rfl) rfl rfl hdg (kk p e s m args below meth c H locs ls hc hR0 hR hn hu hq hl)
end GM
end
section
/-! every instruction -/
section S2
variable {C : Cx} {M : Mi} {X : MT} {mtab : List ME} {mt : List (Nat × Nat × Nat)} {d : Nat} {t0 t : Ht} {Q : OutT → Ht → Prop} {K : Nat → LV → List SV → Ht → Prop} {pc len : Nat} {lv : LV} {st : List SV} {sc : Option (Nat × Nat × (Nat → Int32))}
theorem tV_of {t : Ht} {a k n : Nat} (h : slN (tK t a) k = n) : tV t a k = vv (rdS t a k n) := by
  unfold tV rdS
  rw [h]
  match n with
  | 0 => rfl
  | 1 => rfl
  | n + 2 => rfl
theorem slN_obj {kd ci k : Nat} (h : kd = ci + 1) (hci : ci < 17) : slN kd k = tyN (fTy ci k) := by
  unfold slN
  rw [if_pos (by omega), h, Nat.add_sub_cancel]
theorem dflt_ok {ty : FieldType} (h : noFl ty = true) : defaultValue ty = dV (tyN ty) := by
  cases ty <;> first | rfl | (cases h)
theorem gd_of {b : Bool} {P : Prop} (h : gd b P) : b = true ∧ P := by
  cases b with
  | true => exact ⟨rfl, h⟩
  | false => exact h.elim
theorem okJ_of {ty : FieldType} {x : Int32} {P : Prop} (h : okJ ty x P) : okI ty x ∧ P := by
  cases ty <;> first | (exact ⟨trivial, h⟩) | (exact ⟨h.1, h.2⟩) | (exact h.elim)
theorem emp_of {α : Type} {l : List α} (h : l.isEmpty = true) : l = [] := List.isEmpty_iff.mp h
/-- caught here, or out -/
theorem exc_sound (hC : CodeOK M X) (hK : ∀ pc lv st t, K pc lv st t → WG C M d t0 Q pc lv st t) {kd a : Nat} {st : List Value} (h : exc X Q K pc lv t kd a) :
    ∃ (o : OutT) (t' : Ht), Q o t' ∧ tN t ≤ tN t' ∧ tU t ≤ tU t' ∧ Gx C M (frD d) (loD d) (tv t0) (oo o) (tv t') pc (lv.map fv) st (tv t) kd a := by
  unfold exc at h
  rcases hC.2.2.2.1 with ⟨h1, h2⟩ | ⟨s, e, hpc, ct, kd', h1, h2, h3, h4⟩
  · rw [h2] at h
    exact ⟨_, t, h, Nat.le_refl _, Nat.le_refl _, gx_out (by rw [h1]; intro q hq; cases hq)⟩
  · rw [h2] at h
    dsimp only at h
    by_cases hcov : s ≤ pc ∧ pc < e
    · rw [if_pos hcov] at h
      obtain ⟨rfl, h⟩ := h
      rcases h4 with ⟨rfl, hw⟩ | ⟨e9, he9, rfl, hw⟩
      · rw [if_pos rfl] at h
        obtain ⟨o, t', q1, q2, q3, q4⟩ := hK _ _ _ _ h
        exact ⟨o, t', q1, q2, q3, gx_catch16 h1 hcov.1 hcov.2 h3 hw q4⟩
      · rw [if_neg (by omega)] at h
        split at h
        · rename_i k l9 heq
          obtain ⟨z1, z2, z3, -⟩ := hC.1 _ _ _ heq
          simp only [ilenOK, beq_iff_eq] at z2
          subst z2
          obtain ⟨o, t', q1, q2, q3, q4⟩ := hK _ _ _ _ h
          refine ⟨o, t', q1, q2, q3, gx_catchX (k := k.val) he9 h1 hcov.1 hcov.2 h3 hw (by simpa [stoOK] using z3) (Or.inl ⟨k, z1, rfl, rfl⟩) ?_⟩
          rw [fmap_filter (p := fun q => !(q.1 == k.val) && !(q.1 + 1 == k.val && (vv q.2).category == 2)) (fun _ => rfl)]
          exact q4
        · rename_i k l9 heq
          obtain ⟨z1, z2, z3, -⟩ := hC.1 _ _ _ heq
          simp only [ilenOK, beq_iff_eq] at z2
          subst z2
          obtain ⟨o, t', q1, q2, q3, q4⟩ := hK _ _ _ _ h
          refine ⟨o, t', q1, q2, q3, gx_catchX (k := k) he9 h1 hcov.1 hcov.2 h3 hw (by simpa [stoOK] using z3) (Or.inr ⟨z1, rfl⟩) ?_⟩
          rw [fmap_filter (p := fun q => !(q.1 == k) && !(q.1 + 1 == k && (vv q.2).category == 2)) (fun _ => rfl)]
          exact q4
        · exact h.elim
    · rw [if_neg hcov] at h
      exact ⟨_, t, h, Nat.le_refl _, Nat.le_refl _, gx_out (by rw [h1]; intro q hq; rw [List.mem_singleton.mp hq]; exact hcov)⟩
theorem retK_of {rk : Nat} {v : Option SV} {f : List SV → Prop} (h : retK rk v f) : f v.toList := by
  unfold retK at h
  split at h
  · obtain ⟨rfl, h⟩ := h; exact h
  · unfold rI at h; split at h
    · exact h
    · exact h.elim
  · unfold rJ at h; split at h
    · exact h
    · exact h.elim
  · unfold rR at h; split at h
    · exact h
    · exact h.elim
theorem aft_sound {rk : Nat} (hC : CodeOK M X) (hK : ∀ pc lv st t, K pc lv st t → WG C M d t0 Q pc lv st t) {o1 : OutT} (h : aft X Q K rk pc lv st o1 t) :
    ∃ (o : OutT) (t' : Ht), Q o t' ∧ tN t ≤ tN t' ∧ tU t ≤ tU t' ∧ Aft C M (frD d) (loD d) (tv t0) (oo o) (tv t') pc (lv.map fv) (st.map vv) (oo o1) (tv t) := by
  cases o1 with
  | inl v =>
    have h := retK_of (f := fun l => K (pc + 3) lv (l ++ st) t) h
    obtain ⟨o, t', q1, q2, q3, q4⟩ := hK _ _ _ _ h
    refine ⟨o, t', q1, q2, q3, ?_⟩
    cases v with
    | none => exact q4
    | some v => exact q4
  | inr x => exact exc_sound hC hK h
theorem gW_byte : Cond.arrayClass (aT 0) ∈ gW := List.mem_filter.mpr ⟨by decide +kernel, by decide +kernel⟩
theorem gW_int : Cond.arrayClass (aT 1) ∈ gW := List.mem_filter.mpr ⟨by decide +kernel, by decide +kernel⟩
theorem gW_long : Cond.arrayClass (aT 2) ∈ gW := List.mem_filter.mpr ⟨by decide +kernel, by decide +kernel⟩
set_option maxHeartbeats 4000000 in
theorem st1_sound (hP : PoolOK M.1 X.2.1 mtab mt) (hC : CodeOK M X) (hK : ∀ pc lv st t, K pc lv st t → WG C M (d + 1) t0 Q pc lv st t) {i : Instr} (hi : X.1.lookup pc = some (i, len))
    (hsc : ∀ s9, sc = some s9 → s9 = cX C) (h : st1 (CalG C mtab d) mt (cS C) (cG C) sc X Q K i len pc lv st t) : WG C M (d + 1) t0 Q pc lv st t := by
  obtain ⟨hdg, hl, hs, htg⟩ := hC.1 pc i len hi
  cases i with
  | aconst_null =>
    simp only [ilenOK, beq_iff_eq] at hl; subst hl
    exact wg_step (st' := svR none :: st) (fun hx hb _ k => lv_null hx hb hdg k) (hK _ _ _ _ h)
  | iconst n =>
    simp only [ilenOK, beq_iff_eq] at hl; subst hl
    exact wg_step (st' := svI _ :: st) (fun hx hb _ k => lv_iconst hx hb hdg rfl k) (hK _ _ _ _ h)
  | bipush n =>
    simp only [ilenOK, beq_iff_eq] at hl; subst hl
    exact wg_step (st' := svI _ :: st) (fun hx hb _ k => lv_bipush hx hb hdg rfl k) (hK _ _ _ _ h)
  | sipush n =>
    simp only [ilenOK, beq_iff_eq] at hl; subst hl
    exact wg_step (st' := svI _ :: st) (fun hx hb _ k => lv_sipush hx hb hdg rfl k) (hK _ _ _ _ h)
  | lconst n =>
    simp only [ilenOK, beq_iff_eq] at hl; subst hl
    exact wg_step (st' := svJ _ :: st) (fun hx hb _ k => lv_lconst hx hb hdg rfl k) (hK _ _ _ _ h)
  | ldc idx =>
    simp only [ilenOK, beq_iff_eq] at hl; subst hl
    simp only [st1] at h
    split at h
    · rename_i v heq
      exact wg_stepC (st' := svI v :: st) (fun hx hb ho ht k => lv_ldc hx hb ho (ht _ (hP.2.2.2.1 idx v heq)) hdg k) (hK _ _ _ _ h)
    · split at h
      · rename_i n heq
        obtain ⟨tx, htx⟩ := hP.2.2.2.2.2.1 idx n heq
        obtain ⟨o, t', q1, q2, q3, q4⟩ := hK _ _ _ _ h
        exact ⟨o, t', q1, q2, q3, gd_ldcS htx hdg q4⟩
      · exact h.elim
  | ldc_w idx =>
    simp only [ilenOK, beq_iff_eq] at hl; subst hl
    simp only [st1] at h
    split at h
    · rename_i v heq
      exact wg_stepC (st' := svI v :: st) (fun hx hb ho ht k => lv_ldcw hx hb ho (ht _ (hP.2.2.2.1 idx v heq)) hdg k) (hK _ _ _ _ h)
    · exact h.elim
  | ldc2_w idx =>
    simp only [ilenOK, beq_iff_eq] at hl; subst hl
    simp only [st1] at h
    split at h
    · rename_i v heq
      exact wg_stepC (st' := svJ v :: st) (fun hx hb ho ht k => lv_ldc2 hx hb ho (ht _ (hP.2.2.2.2.1 idx v heq)) hdg k) (hK _ _ _ _ h)
    · exact h.elim
  | iload k =>
    simp only [ilenOK, beq_iff_eq] at hl; subst hl
    simp only [st1] at h
    split at h
    · rename_i x heq
      exact wg_step (st' := svI x :: st) (fun hx hb hv k => lv_iload hx hb hdg (lk_at heq hv) k) (hK _ _ _ _ h)
    · exact h.elim
  | iload_n k =>
    simp only [ilenOK, beq_iff_eq] at hl; subst hl
    simp only [st1] at h
    split at h
    · rename_i x heq
      exact wg_step (st' := svI x :: st) (fun hx hb hv k => lv_iload_n hx hb hdg rfl (lk_at heq hv) k) (hK _ _ _ _ h)
    · exact h.elim
  | lload k =>
    simp only [ilenOK, beq_iff_eq] at hl; subst hl
    simp only [st1] at h
    split at h
    · rename_i x heq
      exact wg_step (st' := svJ x :: st) (fun hx hb hv k => lv_lload hx hb hdg (lk_at heq hv) k) (hK _ _ _ _ h)
    · exact h.elim
  | lload_n k =>
    simp only [ilenOK, beq_iff_eq] at hl; subst hl
    simp only [st1] at h
    split at h
    · rename_i x heq
      exact wg_step (st' := svJ x :: st) (fun hx hb hv k => lv_lload_n hx hb hdg rfl (lk_at heq hv) k) (hK _ _ _ _ h)
    · exact h.elim
  | aload k =>
    simp only [ilenOK, beq_iff_eq] at hl; subst hl
    simp only [st1] at h
    split at h
    · rename_i x heq
      cases x with
      | none => exact wg_step (st' := svR none :: st) (fun hx hb hv k => lv_aloadN hx hb hdg (lk_at heq hv) k) (hK _ _ _ _ h)
      | some a => exact wg_step (st' := svR (some a) :: st) (fun hx hb hv k => lv_aload hx hb hdg (lk_at heq hv) k) (hK _ _ _ _ h)
    · exact h.elim
  | aload_n k =>
    simp only [ilenOK, beq_iff_eq] at hl; subst hl
    simp only [st1] at h
    split at h
    · rename_i x heq
      cases x with
      | none => exact wg_step (st' := svR none :: st) (fun hx hb hv k => lv_aload_nN hx hb hdg rfl (lk_at heq hv) k) (hK _ _ _ _ h)
      | some a => exact wg_step (st' := svR (some a) :: st) (fun hx hb hv k => lv_aload_n hx hb hdg rfl (lk_at heq hv) k) (hK _ _ _ _ h)
    · exact h.elim
  | istore k =>
    simp only [ilenOK, beq_iff_eq] at hl; subst hl
    obtain ⟨x, r, rfl, h⟩ := popI_of h
    exact wg_stepL (st' := r) (lv' := lset1 lv k (svI x)) (fun hx hb hv kk => lv_istore hx hb hdg hv (by simpa [stoOK] using hs) (lset1_map (v := svI x)) kk) (hK _ _ _ _ h)
  | istore_n k =>
    simp only [ilenOK, beq_iff_eq] at hl; subst hl
    obtain ⟨x, r, rfl, h⟩ := popI_of h
    exact wg_stepL (st' := r) (lv' := lset1 lv k.val (svI x)) (fun hx hb hv kk => lv_istore_n hx hb hdg rfl hv (by simpa [stoOK] using hs) (lset1_map (v := svI x)) kk) (hK _ _ _ _ h)
  | lstore k =>
    simp only [ilenOK, beq_iff_eq] at hl; subst hl
    obtain ⟨x, r, rfl, h⟩ := popJ_of h
    exact wg_stepL (st' := r) (lv' := lset2 lv k (svJ x)) (fun hx hb hv kk => lv_lstore hx hb hdg hv (by simpa [stoOK] using hs) (lset2_map (v := svJ x)) kk) (hK _ _ _ _ h)
  | lstore_n k =>
    simp only [ilenOK, beq_iff_eq] at hl; subst hl
    obtain ⟨x, r, rfl, h⟩ := popJ_of h
    exact wg_stepL (st' := r) (lv' := lset2 lv k.val (svJ x)) (fun hx hb hv kk => lv_lstore_n hx hb hdg rfl hv (by simpa [stoOK] using hs) (lset2_map (v := svJ x)) kk) (hK _ _ _ _ h)
  | astore k =>
    simp only [ilenOK, beq_iff_eq] at hl; subst hl
    obtain ⟨x, r, rfl, h⟩ := popR_of h
    cases x with
    | none => exact wg_stepL (st' := r) (lv' := lset1 lv k (svR none)) (fun hx hb hv kk => lv_astoreN hx hb hdg hv (by simpa [stoOK] using hs) (lset1_map (v := svR none)) kk) (hK _ _ _ _ h)
    | some a => exact wg_stepL (st' := r) (lv' := lset1 lv k (svR (some a))) (fun hx hb hv kk => lv_astore hx hb hdg hv (by simpa [stoOK] using hs) (lset1_map (v := svR (some a))) kk) (hK _ _ _ _ h)
  | astore_n k =>
    simp only [ilenOK, beq_iff_eq] at hl; subst hl
    obtain ⟨x, r, rfl, h⟩ := popR_of h
    cases x with
    | none => exact wg_stepL (st' := r) (lv' := lset1 lv k.val (svR none)) (fun hx hb hv kk => lv_astore_nN hx hb hdg rfl hv (by simpa [stoOK] using hs) (lset1_map (v := svR none)) kk) (hK _ _ _ _ h)
    | some a => exact wg_stepL (st' := r) (lv' := lset1 lv k.val (svR (some a))) (fun hx hb hv kk => lv_astore_n hx hb hdg rfl hv (by simpa [stoOK] using hs) (lset1_map (v := svR (some a))) kk) (hK _ _ _ _ h)
  | iinc k n =>
    simp only [ilenOK, beq_iff_eq] at hl; subst hl
    simp only [st1] at h
    split at h
    · rename_i x heq
      obtain ⟨pl, hpl⟩ := List.getElem?_of_mem (List.mem_map_of_mem (f := fv) (lk_mem heq))
      exact wg_stepL (st' := st) (lv' := lset1 lv k (svI (x + Int32.ofInt n))) (fun hx hb hv kk => lv_iinc hx hb hdg hv hpl rfl (by simpa [stoOK] using hs) (lset1_map (v := svI (x + Int32.ofInt n))) kk) (hK _ _ _ _ h)
    · exact h.elim
  | pop =>
    simp only [ilenOK, beq_iff_eq] at hl; subst hl
    simp only [st1] at h
    cases st with
    | nil => exact h.elim
    | cons v r =>
      obtain ⟨g1, g2⟩ := gd_of h
      exact wg_step (st' := r) (fun hx hb _ k => lv_pop hx hb hdg (svC_cat (by simpa using g1)) k) (hK _ _ _ _ g2)
  | dup =>
    simp only [ilenOK, beq_iff_eq] at hl; subst hl
    simp only [st1] at h
    cases st with
    | nil => exact h.elim
    | cons v r =>
      obtain ⟨g1, g2⟩ := gd_of h
      exact wg_step (st' := v :: v :: r) (fun hx hb _ k => lv_dup hx hb hdg (svC_cat (by simpa using g1)) k) (hK _ _ _ _ g2)
  | dup2 =>
    simp only [ilenOK, beq_iff_eq] at hl; subst hl
    simp only [st1] at h
    split at h
    · rename_i y r
      exact wg_step (st' := svJ y :: svJ y :: r) (fun hx hb _ k => lv_dup2_2 (va := .long y) hx hb hdg rfl k) (hK _ _ _ _ h)
    · rename_i v w r _
      obtain ⟨g1, g2⟩ := gd_of h
      rw [Bool.and_eq_true] at g1
      exact wg_step (st' := v :: w :: v :: w :: r) (fun hx hb _ k => lv_dup2_11 hx hb hdg (svC_cat (by simpa using g1.1)) (svC_cat (by simpa using g1.2)) k) (hK _ _ _ _ g2)
    · exact h.elim
  | iadd =>
    simp only [ilenOK, beq_iff_eq] at hl; subst hl
    obtain ⟨y, r, rfl, h⟩ := popI_of h
    obtain ⟨x, r, rfl, h⟩ := popI_of h
    exact wg_step (st' := svI (x + y) :: r) (fun hx hb _ k => lv_iadd hx hb hdg k) (hK _ _ _ _ h)
  | isub =>
    simp only [ilenOK, beq_iff_eq] at hl; subst hl
    obtain ⟨y, r, rfl, h⟩ := popI_of h
    obtain ⟨x, r, rfl, h⟩ := popI_of h
    exact wg_step (st' := svI (x - y) :: r) (fun hx hb _ k => lv_isub hx hb hdg k) (hK _ _ _ _ h)
  | imul =>
    simp only [ilenOK, beq_iff_eq] at hl; subst hl
    obtain ⟨y, r, rfl, h⟩ := popI_of h
    obtain ⟨x, r, rfl, h⟩ := popI_of h
    exact wg_step (st' := svI (x * y) :: r) (fun hx hb _ k => lv_imul hx hb hdg k) (hK _ _ _ _ h)
  | iand =>
    simp only [ilenOK, beq_iff_eq] at hl; subst hl
    obtain ⟨y, r, rfl, h⟩ := popI_of h
    obtain ⟨x, r, rfl, h⟩ := popI_of h
    exact wg_step (st' := svI (x &&& y) :: r) (fun hx hb _ k => lv_iand hx hb hdg k) (hK _ _ _ _ h)
  | ior =>
    simp only [ilenOK, beq_iff_eq] at hl; subst hl
    obtain ⟨y, r, rfl, h⟩ := popI_of h
    obtain ⟨x, r, rfl, h⟩ := popI_of h
    exact wg_step (st' := svI (x ||| y) :: r) (fun hx hb _ k => lv_ior hx hb hdg k) (hK _ _ _ _ h)
  | ixor =>
    simp only [ilenOK, beq_iff_eq] at hl; subst hl
    obtain ⟨y, r, rfl, h⟩ := popI_of h
    obtain ⟨x, r, rfl, h⟩ := popI_of h
    exact wg_step (st' := svI (x ^^^ y) :: r) (fun hx hb _ k => lv_ixor hx hb hdg k) (hK _ _ _ _ h)
  | ishl =>
    simp only [ilenOK, beq_iff_eq] at hl; subst hl
    obtain ⟨y, r, rfl, h⟩ := popI_of h
    obtain ⟨x, r, rfl, h⟩ := popI_of h
    exact wg_step (st' := svI (x <<< (y &&& 31)) :: r) (fun hx hb _ k => lv_ishl hx hb hdg k) (hK _ _ _ _ h)
  | ishr =>
    simp only [ilenOK, beq_iff_eq] at hl; subst hl
    obtain ⟨y, r, rfl, h⟩ := popI_of h
    obtain ⟨x, r, rfl, h⟩ := popI_of h
    exact wg_step (st' := svI (x >>> (y &&& 31)) :: r) (fun hx hb _ k => lv_ishr hx hb hdg k) (hK _ _ _ _ h)
  | idiv =>
    simp only [ilenOK, beq_iff_eq] at hl; subst hl
    obtain ⟨y, r, rfl, h⟩ := popI_of h
    obtain ⟨x, r, rfl, h⟩ := popI_of h
    exact wg_step (st' := svI (x / y) :: r) (fun hx hb _ k => lv_idiv hx hb hdg h.1 k) (hK _ _ _ _ h.2)
  | irem =>
    simp only [ilenOK, beq_iff_eq] at hl; subst hl
    obtain ⟨y, r, rfl, h⟩ := popI_of h
    obtain ⟨x, r, rfl, h⟩ := popI_of h
    exact wg_step (st' := svI (x - x / y * y) :: r) (fun hx hb _ k => lv_irem hx hb hdg h.1 k) (hK _ _ _ _ h.2)
  | ladd =>
    simp only [ilenOK, beq_iff_eq] at hl; subst hl
    obtain ⟨y, r, rfl, h⟩ := popJ_of h
    obtain ⟨x, r, rfl, h⟩ := popJ_of h
    exact wg_step (st' := svJ (x + y) :: r) (fun hx hb _ k => lv_ladd hx hb hdg k) (hK _ _ _ _ h)
  | lsub =>
    simp only [ilenOK, beq_iff_eq] at hl; subst hl
    obtain ⟨y, r, rfl, h⟩ := popJ_of h
    obtain ⟨x, r, rfl, h⟩ := popJ_of h
    exact wg_step (st' := svJ (x - y) :: r) (fun hx hb _ k => lv_lsub hx hb hdg k) (hK _ _ _ _ h)
  | lmul =>
    simp only [ilenOK, beq_iff_eq] at hl; subst hl
    obtain ⟨y, r, rfl, h⟩ := popJ_of h
    obtain ⟨x, r, rfl, h⟩ := popJ_of h
    exact wg_step (st' := svJ (x * y) :: r) (fun hx hb _ k => lv_lmul hx hb hdg k) (hK _ _ _ _ h)
  | ldiv =>
    simp only [ilenOK, beq_iff_eq] at hl; subst hl
    obtain ⟨y, r, rfl, h⟩ := popJ_of h
    obtain ⟨x, r, rfl, h⟩ := popJ_of h
    exact wg_step (st' := svJ (x / y) :: r) (fun hx hb _ k => lv_ldiv hx hb hdg h.1 k) (hK _ _ _ _ h.2)
  | lrem =>
    simp only [ilenOK, beq_iff_eq] at hl; subst hl
    obtain ⟨y, r, rfl, h⟩ := popJ_of h
    obtain ⟨x, r, rfl, h⟩ := popJ_of h
    exact wg_step (st' := svJ (x - x / y * y) :: r) (fun hx hb _ k => lv_lrem hx hb hdg h.1 k) (hK _ _ _ _ h.2)
  | lneg =>
    simp only [ilenOK, beq_iff_eq] at hl; subst hl
    obtain ⟨x, r, rfl, h⟩ := popJ_of h
    exact wg_step (st' := svJ (-x) :: r) (fun hx hb _ k => lv_lneg hx hb hdg k) (hK _ _ _ _ h)
  | lcmp =>
    simp only [ilenOK, beq_iff_eq] at hl; subst hl
    obtain ⟨y, r, rfl, h⟩ := popJ_of h
    obtain ⟨x, r, rfl, h⟩ := popJ_of h
    exact wg_step (st' := svI (lg_cmp x y) :: r) (fun hx hb _ k => W.lcmp hx hb hdg k) (hK _ _ _ _ h)
  | i2l =>
    simp only [ilenOK, beq_iff_eq] at hl; subst hl
    obtain ⟨x, r, rfl, h⟩ := popI_of h
    exact wg_step (st' := svJ x.toInt64 :: r) (fun hx hb _ k => lv_i2l hx hb hdg rfl k) (hK _ _ _ _ h)
  | l2i =>
    simp only [ilenOK, beq_iff_eq] at hl; subst hl
    obtain ⟨x, r, rfl, h⟩ := popJ_of h
    exact wg_step (st' := svI x.toInt32 :: r) (fun hx hb _ k => lv_l2i hx hb hdg rfl k) (hK _ _ _ _ h)
  | i2b =>
    simp only [ilenOK, beq_iff_eq] at hl; subst hl
    obtain ⟨x, r, rfl, h⟩ := popI_of h
    exact wg_step (st' := svI x.toInt8.toInt32 :: r) (fun hx hb _ k => lv_i2b hx hb hdg rfl k) (hK _ _ _ _ h)
  | ifCond c off =>
    simp only [ilenOK, beq_iff_eq] at hl; subst hl
    obtain ⟨x, r, rfl, h⟩ := popI_of h
    exact wg_if0 hdg (by simpa [tgtOK] using htg) h (hK _ _ _ _) (hK _ _ _ _)
  | if_icmp c off =>
    simp only [ilenOK, beq_iff_eq] at hl; subst hl
    obtain ⟨y, r, rfl, h⟩ := popI_of h
    obtain ⟨x, r, rfl, h⟩ := popI_of h
    exact wg_ifI hdg (by simpa [tgtOK] using htg) h (hK _ _ _ _) (hK _ _ _ _)
  | ifnull off =>
    simp only [ilenOK, beq_iff_eq] at hl; subst hl
    obtain ⟨x, r, rfl, h⟩ := popR_of h
    have e := tgt_ok (pc := pc) (off := off) (by simpa [tgtOK] using htg)
    cases x with
    | none => exact wg_step (st' := r) (fun hx hb _ k => lv_ifnullN hx hb hdg e k) (hK _ _ _ _ h)
    | some a => exact wg_step (st' := r) (fun hx hb _ k => lv_ifnull hx hb hdg k) (hK _ _ _ _ h)
  | ifnonnull off =>
    simp only [ilenOK, beq_iff_eq] at hl; subst hl
    obtain ⟨x, r, rfl, h⟩ := popR_of h
    have e := tgt_ok (pc := pc) (off := off) (by simpa [tgtOK] using htg)
    cases x with
    | none => exact wg_step (st' := r) (fun hx hb _ k => lv_ifnonnullN hx hb hdg k) (hK _ _ _ _ h)
    | some a => exact wg_step (st' := r) (fun hx hb _ k => lv_ifnonnull hx hb hdg e k) (hK _ _ _ _ h)
  | goto off =>
    simp only [ilenOK, beq_iff_eq] at hl; subst hl
    exact wg_step (st' := st) (fun hx hb _ k => lv_goto hx hb hdg (tgt_ok (by simpa [tgtOK] using htg)) k) (hK _ _ _ _ h)
  | lookupswitch dd ps =>
    obtain ⟨x, r, rfl, h⟩ := popI_of h
    simp only [tgtOK, Bool.and_eq_true, decide_eq_true_eq, List.all_eq_true] at htg
    obtain ⟨⟨⟨t1, t2⟩, t3⟩, t4⟩ := htg
    have h9 := sw_of (J := fun o => K (tgt pc o) lv r t) ps.toList (fun q hq => by have := t4 q hq; simpa using this) h
    have hoff : 0 ≤ (pc : Int) + Op.lookupswitch.offset ps.toList dd x.toInt := by
      have key : ∀ l : List (Int × Int), (∀ q ∈ l, 0 ≤ (pc : Int) + q.2) → 0 ≤ (pc : Int) + Op.lookupswitch.offset l dd x.toInt := by
        intro l
        induction l with
        | nil => intro _; simpa [Op.lookupswitch.offset] using t1
        | cons q l ih =>
          intro hq
          obtain ⟨k, o⟩ := q
          unfold Op.lookupswitch.offset
          split
          · exact hq _ List.mem_cons_self
          · exact ih (fun z hz => hq z (List.mem_cons_of_mem _ hz))
      exact key _ (fun q hq => by have := t2 q hq; simpa using this)
    exact wg_step (st' := r) (fun hx hb _ k => lv_lookup hx hb hdg (by simpa [List.all_eq_true] using t3) rfl (tgt_ok hoff) k) (hK _ _ _ _ h9)
  | tableswitch dd lo hi offs =>
    obtain ⟨x, r, rfl, h⟩ := popI_of h
    simp only [tgtOK, Bool.and_eq_true, decide_eq_true_eq, List.all_eq_true] at htg
    obtain ⟨⟨⟨⟨t1, t2⟩, t3⟩, t4⟩, t5⟩ := htg
    have hsz : (offs.toList.length : Int) = offs.size := by simp
    rcases swL_of (J := fun o => K (tgt pc o) lv r t) offs.toList lo t4 (by rw [hsz]; omega) h with ⟨j, o, q1, q2, q3⟩ | ⟨q1, q2⟩
    · have hj : j < offs.toList.length := (List.getElem?_eq_some_iff.mp q1).1
      have ho : offs[(x.toInt - lo).toNat]? = some o := by
        rw [q2, show (lo + (j : Int) - lo).toNat = j by omega, ← Array.getElem?_toList]; exact q1
      have hoff : 0 ≤ (pc : Int) + o := by have := t2 o (List.mem_of_getElem? q1); simpa using this
      exact wg_step (st' := r) (fun hx hb _ k => lv_tableIn hx hb hdg (by omega) (by omega) ho (tgt_ok hoff) k) (hK _ _ _ _ q3)
    · exact wg_step (st' := r) (fun hx hb _ k => lv_tableOut hx hb hdg (by omega) (tgt_ok (by simpa using t1)) k) (hK _ _ _ _ q2)
  | getfield idx =>
    simp only [ilenOK, beq_iff_eq] at hl; subst hl
    obtain ⟨x, r, e1, h2⟩ := popR_of h
    subst e1; clear h
    obtain ⟨a, e2, h3⟩ := onR_of h2
    subst e2; clear h2
    split at h3
    · rename_i ci k w heq
      obtain ⟨hci, rr, ⟨c1, c2, c3, c4, c5⟩, hk, hlink, -⟩ := hP.1 idx ci k w heq
      obtain ⟨hka, h⟩ := h3
      obtain ⟨o, t', q1, q2, q3, q4⟩ := hK _ _ _ _ h
      refine ⟨o, t', q1, q2, q3, gd_get (a := a) (ci := ci) (k := k) (st := r.map vv) ⟨rr, fTy ci, c1, hk, c2, c3, c4, hlink⟩ hka (by omega) hdg ?_⟩
      have e : hV (tv t) a k = vv (rdS t a k (tyN (fTy ci k))) := tV_of (slN_obj hka hci)
      rw [e]
      exact q4
    · exact h3.elim
  | putfield idx =>
    simp only [ilenOK, beq_iff_eq] at hl; subst hl
    simp only [st1] at h
    cases st with
    | nil => exact h.elim
    | cons v st =>
      obtain ⟨x, r, e1, h2⟩ := popR_of h
      subst e1; clear h
      obtain ⟨a, e2, h3⟩ := onR_of h2
      subst e2; clear h2
      split at h3
      · rename_i ci k w heq
        obtain ⟨hci, rr, ⟨c1, c2, c3, c4, c5⟩, hk, hlink, hw1⟩ := hP.1 idx ci k w heq
        obtain ⟨hka, h⟩ := h3
        obtain ⟨g1, h⟩ := gd_of h
        have hfin : isFin ci k = false ∨ (w = 1 ∧ X.2.2.2.1 = true) := by
          rw [Bool.or_eq_true] at g1
          rcases g1 with z | z
          · exact Or.inl (by simpa using z)
          · rw [Bool.and_eq_true] at z
            exact Or.inr ⟨by simpa using z.1, z.2⟩
        have hsl := slN_obj (k := k) hka hci
        have hF : FL M idx ci k := ⟨rr, fTy ci, c1, hk, c2, c3, c4, hlink⟩
        have hty : ∀ r, vwCl[ci]? = some r → parseFieldDescriptor (r.2.1 k).2.2.1 = some (fTy ci k) := fun r9 h9 => by cases c1.symm.trans h9; exact c3 k hk
        have hfin' : ∀ r : vw_C, vwCl[ci]? = some r → (r.2.1 k).2.2.2 = true → M.2.1 = "<init>" ∧ (r.2.1 k).1 = M.1 ∧ Cond.fieldLink M.1 idx (r.2.1 k).1 (r.2.1 k).2.1 (r.2.1 k).2.2.1 ∈ gW := by
          intro r9 h9 hf
          cases c1.symm.trans h9
          have hfe : isFin ci k = true := by
            unfold isFin
            have : vwCl.getD ci ("", fun _ => ("", "", "", false), 0) = rr := by rw [List.getD_eq_getElem?_getD, c1]; rfl
            rw [this]; exact hf
          rcases hfin with z | ⟨z1, z2⟩
          · rw [hfe] at z; cases z
          · obtain ⟨w1, w2⟩ := hw1 z1
            exact ⟨hC.2.2.1 z2, w1, w2⟩
        rcases v with x | x | x
        · have hn0 : tyN (fTy ci k) = 0 := by
            generalize tyN (fTy ci k) = n at h
            match n, h with
            | 0, _ => rfl
            | 1, h => exact h.elim
            | 2, h => exact h.elim
            | n + 3, h => exact h.elim
          rw [hn0] at h
          obtain ⟨hok, h⟩ := okJ_of h
          obtain ⟨o, t', q1, q2, q3, q4⟩ := hK _ _ _ _ h
          refine ⟨o, t', q1, q2, q3, gd_put (st := r.map vv) hF hty hka (by omega) ?_ hfin' hdg ?_⟩
          · generalize fTy ci k = ty at hok
            cases ty <;> first | (exact hok.elim) | (exact ⟨rfl, rfl⟩) | (rcases hok with rfl | rfl <;> exact ⟨by decide, by decide⟩)
          · rw [show vv (Sum.inl x) = Value.int x from rfl, hSet_sI (hsl.trans hn0)]
            exact q4
        · have hn0 : tyN (fTy ci k) = 1 := by
            generalize tyN (fTy ci k) = n at h
            match n, h with
            | 0, h => exact h.elim
            | 1, _ => rfl
            | 2, h => exact h.elim
            | n + 3, h => exact h.elim
          rw [hn0] at h
          obtain ⟨o, t', q1, q2, q3, q4⟩ := hK _ _ _ _ h
          refine ⟨o, t', q1, q2, q3, gd_put (st := r.map vv) hF hty hka (by omega) ?_ hfin' hdg ?_⟩
          · generalize fTy ci k = ty at hn0
            cases ty <;> first | (exact ⟨rfl, rfl⟩) | (cases hn0)
          · rw [show vv (Sum.inr (Sum.inl x)) = Value.long x from rfl, hSet_sJ (hsl.trans hn0)]
            exact q4
        · have hn0 : tyN (fTy ci k) = 2 := by
            generalize tyN (fTy ci k) = n at h
            match n, h with
            | 0, h => exact h.elim
            | 1, h => exact h.elim
            | 2, _ => rfl
            | n + 3, h => exact h.elim
          rw [hn0] at h
          obtain ⟨o, t', q1, q2, q3, q4⟩ := hK _ _ _ _ h
          refine ⟨o, t', q1, q2, q3, gd_put (st := r.map vv) hF hty hka (by omega) ?_ hfin' hdg ?_⟩
          · generalize fTy ci k = ty at hn0
            cases ty <;> first | (cases x <;> exact ⟨rfl, rfl⟩) | (cases hn0)
          · rw [show vv (Sum.inr (Sum.inr x)) = va_rf x from rfl, hSet_sR (hsl.trans hn0)]
            exact q4
      · exact h3.elim
  | getstatic idx =>
    simp only [ilenOK, beq_iff_eq] at hl; subst hl
    simp only [st1] at h
    split at h
    · rename_i g heq
      obtain ⟨cn, n, dsc, g1, g2⟩ := hP.2.2.2.2.2.2 idx g heq
      obtain ⟨o, t', q1, q2, q3, q4⟩ := hK _ _ _ _ h
      exact ⟨o, t', q1, q2, q3, gd_gets g1 g2 hdg q4⟩
    · exact h.elim
  | arraylength =>
    simp only [ilenOK, beq_iff_eq] at hl; subst hl
    cases sc with
    | none =>
      obtain ⟨x, r, e1, h2⟩ := popR_of h
      subst e1; clear h
      obtain ⟨a, e2, h3⟩ := onR_of h2
      subst e2; clear h2
      obtain ⟨k1, k2, h⟩ := h3
      obtain ⟨o, t', q1, q2, q3, q4⟩ := hK _ _ _ _ h
      exact ⟨o, t', q1, q2, q3, gd_alen (a := a) (t := tK t a - 100) (st := r.map vv) (by show tK t a = _; omega) (by omega) hdg q4⟩
    | some s9 =>
      have e9 := hsc s9 rfl
      subst e9
      obtain ⟨x, r, e1, h2⟩ := popR_of h
      subst e1; clear h
      obtain ⟨a, e2, h3⟩ := onR_of h2
      subst e2; clear h2
      obtain ⟨rfl, h⟩ := h3
      obtain ⟨o, t', q1, q2, q3, q4⟩ := hK _ _ _ _ h
      exact ⟨o, t', q1, q2, q3, gd_slen (st := r.map vv) hdg q4⟩
  | baload =>
    simp only [ilenOK, beq_iff_eq] at hl; subst hl
    obtain ⟨j, r, e0, h1⟩ := popI_of h
    subst e0; clear h
    obtain ⟨x, r, e1, h2⟩ := popR_of h1
    subst e1; clear h1
    obtain ⟨a, e2, h3⟩ := onR_of h2
    subst e2; clear h2
    obtain ⟨k1, k2, h⟩ := h3
    obtain ⟨o, t', q1, q2, q3, q4⟩ := hK _ _ _ _ h
    refine ⟨o, t', q1, q2, q3, gd_bald (a := a) (st := r.map vv) k1 k2 hdg ?_⟩
    rw [show hV (tv t) a j.toNatClampNeg = vv (svI (tI t a j.toNatClampNeg)) from tV_of (n := 0) (by rw [k1]; rfl)]
    exact q4
  | iaload =>
    simp only [ilenOK, beq_iff_eq] at hl; subst hl
    cases sc with
    | none =>
      obtain ⟨j, r, e0, h1⟩ := popI_of h
      subst e0; clear h
      obtain ⟨x, r, e1, h2⟩ := popR_of h1
      subst e1; clear h1
      obtain ⟨a, e2, h3⟩ := onR_of h2
      subst e2; clear h2
      obtain ⟨k1, k2, h⟩ := h3
      obtain ⟨o, t', q1, q2, q3, q4⟩ := hK _ _ _ _ h
      refine ⟨o, t', q1, q2, q3, gd_iald (a := a) (st := r.map vv) k1 k2 hdg ?_⟩
      rw [show hV (tv t) a j.toNatClampNeg = vv (svI (tI t a j.toNatClampNeg)) from tV_of (n := 0) (by rw [k1]; rfl)]
      exact q4
    | some s9 =>
      have e9 := hsc s9 rfl
      subst e9
      obtain ⟨j, r, e0, h1⟩ := popI_of h
      subst e0; clear h
      obtain ⟨x, r, e1, h2⟩ := popR_of h1
      subst e1; clear h1
      obtain ⟨a, e2, h3⟩ := onR_of h2
      subst e2; clear h2
      obtain ⟨rfl, k2, h⟩ := h3
      obtain ⟨o, t', q1, q2, q3, q4⟩ := hK _ _ _ _ h
      exact ⟨o, t', q1, q2, q3, gd_sld (st := r.map vv) k2 hdg q4⟩
  | laload =>
    simp only [ilenOK, beq_iff_eq] at hl; subst hl
    obtain ⟨j, r, e0, h1⟩ := popI_of h
    subst e0; clear h
    obtain ⟨x, r, e1, h2⟩ := popR_of h1
    subst e1; clear h1
    obtain ⟨a, e2, h3⟩ := onR_of h2
    subst e2; clear h2
    obtain ⟨k1, k2, h⟩ := h3
    obtain ⟨o, t', q1, q2, q3, q4⟩ := hK _ _ _ _ h
    refine ⟨o, t', q1, q2, q3, gd_lald (a := a) (st := r.map vv) k1 k2 hdg ?_⟩
    rw [show hV (tv t) a j.toNatClampNeg = vv (svJ (tJ t a j.toNatClampNeg)) from tV_of (n := 1) (by rw [k1]; rfl)]
    exact q4
  | aaload =>
    simp only [ilenOK, beq_iff_eq] at hl; subst hl
    obtain ⟨j, r, e0, h1⟩ := popI_of h
    subst e0; clear h
    obtain ⟨x, r, e1, h2⟩ := popR_of h1
    subst e1; clear h1
    obtain ⟨a, e2, h3⟩ := onR_of h2
    subst e2; clear h2
    obtain ⟨k1, k1', k2, h⟩ := h3
    obtain ⟨o, t', q1, q2, q3, q4⟩ := hK _ _ _ _ h
    have hcase : tK t a = 103 ∨ tK t a = 104 ∨ tK t a = 105 := by omega
    refine ⟨o, t', q1, q2, q3, gd_aald (a := a) (t := tK t a - 100) (st := r.map vv) (by show tK t a = _; omega) (by omega) (by rcases hcase with z | z | z <;> rw [z] <;> rfl) k2 hdg ?_⟩
    rw [show hV (tv t) a j.toNatClampNeg = vv (svR (tR t a j.toNatClampNeg)) from tV_of (n := 2) (by rcases hcase with z | z | z <;> rw [z] <;> rfl)]
    exact q4
  | bastore =>
    simp only [ilenOK, beq_iff_eq] at hl; subst hl
    obtain ⟨v, r, e9, h0⟩ := popI_of h
    subst e9; clear h
    obtain ⟨j, r, e0, h1⟩ := popI_of h0
    subst e0; clear h0
    obtain ⟨x, r, e1, h2⟩ := popR_of h1
    subst e1; clear h1
    obtain ⟨a, e2, h3⟩ := onR_of h2
    subst e2; clear h2
    obtain ⟨k1, k2, h⟩ := h3
    obtain ⟨o, t', q1, q2, q3, q4⟩ := hK _ _ _ _ h
    refine ⟨o, t', q1, q2, q3, gd_bast (a := a) (st := r.map vv) k1 k2 hdg ?_⟩
    rw [hSet_sI (by rw [k1]; rfl)]
    exact q4
  | iastore =>
    simp only [ilenOK, beq_iff_eq] at hl; subst hl
    obtain ⟨v, r, e9, h0⟩ := popI_of h
    subst e9; clear h
    obtain ⟨j, r, e0, h1⟩ := popI_of h0
    subst e0; clear h0
    obtain ⟨x, r, e1, h2⟩ := popR_of h1
    subst e1; clear h1
    obtain ⟨a, e2, h3⟩ := onR_of h2
    subst e2; clear h2
    obtain ⟨k1, k2, h⟩ := h3
    obtain ⟨o, t', q1, q2, q3, q4⟩ := hK _ _ _ _ h
    refine ⟨o, t', q1, q2, q3, gd_iast (a := a) (st := r.map vv) k1 k2 hdg ?_⟩
    rw [hSet_sI (by rw [k1]; rfl)]
    exact q4
  | lastore =>
    simp only [ilenOK, beq_iff_eq] at hl; subst hl
    obtain ⟨v, r, e9, h0⟩ := popJ_of h
    subst e9; clear h
    obtain ⟨j, r, e0, h1⟩ := popI_of h0
    subst e0; clear h0
    obtain ⟨x, r, e1, h2⟩ := popR_of h1
    subst e1; clear h1
    obtain ⟨a, e2, h3⟩ := onR_of h2
    subst e2; clear h2
    obtain ⟨k1, k2, h⟩ := h3
    obtain ⟨o, t', q1, q2, q3, q4⟩ := hK _ _ _ _ h
    refine ⟨o, t', q1, q2, q3, gd_last (a := a) (st := r.map vv) k1 k2 hdg ?_⟩
    rw [hSet_sJ (by rw [k1]; rfl)]
    exact q4
  | aastore =>
    simp only [ilenOK, beq_iff_eq] at hl; subst hl
    obtain ⟨v, r, e9, h0⟩ := popR_of h
    subst e9; clear h
    obtain ⟨j, r, e0, h1⟩ := popI_of h0
    subst e0; clear h0
    obtain ⟨x, r, e1, h2⟩ := popR_of h1
    subst e1; clear h1
    obtain ⟨a, e2, h3⟩ := onR_of h2
    subst e2; clear h2
    obtain ⟨k1, k1', k2, k3, h⟩ := h3
    obtain ⟨o, t', q1, q2, q3, q4⟩ := hK _ _ _ _ h
    have hcase : tK t a = 103 ∨ tK t a = 104 ∨ tK t a = 105 := by omega
    have hsl : slN (tK t a) j.toNatClampNeg = 2 := by rcases hcase with z | z | z <;> rw [z] <;> rfl
    rw [← hSet_sR hsl] at q4
    obtain ⟨E, hE⟩ : ∃ E, aT (tK t a - 100) = .object E := by rcases hcase with z | z | z <;> rw [z] <;> exact ⟨_, rfl⟩
    cases v with
    | none => exact ⟨o, t', q1, q2, q3, gd_aastN (a := a) (t := tK t a - 100) (st := r.map vv) (by show tK t a = _; omega) (by omega) hE k2 hdg q4⟩
    | some b =>
      have k3' : okA (tK t a) (tK t b) := k3
      rcases k3' with ⟨z1, z2⟩ | ⟨z1, z2⟩ | ⟨z1, z2⟩
      · rw [z1] at hE; cases hE
        exact ⟨o, t', q1, q2, q3, gd_aast (a := a) (b := b) (t := 4) (ci := 2) (st := r.map vv) z1 (by decide) rfl k2 rfl (by decide) z2 (by decide +kernel) hdg q4⟩
      · rw [z1] at hE; cases hE
        exact ⟨o, t', q1, q2, q3, gd_aast (a := a) (b := b) (t := 5) (ci := 7) (st := r.map vv) z1 (by decide) rfl k2 rfl (by decide) z2 (by decide +kernel) hdg q4⟩
      · rw [z1] at hE; cases hE
        rcases z2 with z2 | z2 | z2 | z2
        · exact ⟨o, t', q1, q2, q3, gd_aast (a := a) (b := b) (t := 3) (ci := 2) (st := r.map vv) z1 (by decide) rfl k2 rfl (by decide) z2 (by decide +kernel) hdg q4⟩
        · exact ⟨o, t', q1, q2, q3, gd_aast (a := a) (b := b) (t := 3) (ci := 8) (st := r.map vv) z1 (by decide) rfl k2 rfl (by decide) z2 (by decide +kernel) hdg q4⟩
        · exact ⟨o, t', q1, q2, q3, gd_aast (a := a) (b := b) (t := 3) (ci := 9) (st := r.map vv) z1 (by decide) rfl k2 rfl (by decide) z2 (by decide +kernel) hdg q4⟩
        · exact ⟨o, t', q1, q2, q3, gd_aast (a := a) (b := b) (t := 3) (ci := 10) (st := r.map vv) z1 (by decide) rfl k2 rfl (by decide) z2 (by decide +kernel) hdg q4⟩
  | newarray at_ =>
    simp only [ilenOK, beq_iff_eq] at hl; subst hl
    obtain ⟨n, r, e0, h1⟩ := popI_of h
    subst e0; clear h
    obtain ⟨k1, k2, k3, h⟩ := gd_of h1
    have k1 : aKd at_ < 3 := by simpa using k1
    obtain ⟨o, t', q1, q2, q3, q4⟩ := hK _ _ _ _ h
    have hat : newarray.typeOf at_ = aT (aKd at_) := by cases at_ <;> first | rfl | (exact absurd k1 (by decide))
    have hw : Cond.arrayClass (aT (aKd at_)) ∈ gW := by cases at_ <;> first | (exact gW_byte) | (exact gW_int) | (exact gW_long) | (exact absurd k1 (by decide))
    refine ⟨o, t', q1, Nat.le_trans (Nat.le_succ _) q2, Nat.le_trans (Nat.le_add_right _ _) q3, gd_newa (st := r.map vv) k1 hat hw k2 k3 hdg q2 q3 ?_⟩
    rw [hNew_tv (fun k => by cases at_ <;> first | rfl | (exact absurd k1 (by decide)))]
    exact q4
  | anewarray idx =>
    simp only [ilenOK, beq_iff_eq] at hl; subst hl
    obtain ⟨n, r, e0, h1⟩ := popI_of h
    subst e0; clear h
    split at h1
    · rename_i kd heq
      obtain ⟨k01, k2, k3, h⟩ := gd_of h1
      rw [Bool.and_eq_true] at k01
      have k0 : 3 ≤ aKo kd := by simpa using k01.1
      have k1 : aKo kd < 6 := by simpa using k01.2
      obtain ⟨o, t', q1, q2, q3, q4⟩ := hK _ _ _ _ h
      obtain ⟨p1, p2⟩ := hP.2.2.1 idx kd heq
      have hkd : kd = 3 ∨ kd = 8 ∨ kd = 300 := by
        unfold aKo at k1
        by_cases z1 : kd = 3
        · exact Or.inl z1
        · by_cases z2 : kd = 8
          · exact Or.inr (Or.inl z2)
          · by_cases z3 : kd = 300
            · exact Or.inr (Or.inr z3)
            · simp [z1, z2, z3] at k1
      refine ⟨o, t', q1, Nat.le_trans (Nat.le_succ _) q2, Nat.le_trans (Nat.le_add_right _ _) q3, ?_⟩
      rw [← hNew_tv (f := fun _ => Value.null) (fun k => by rcases hkd with rfl | rfl | rfl <;> rfl)] at q4
      rcases hkd with rfl | rfl | rfl
      · obtain ⟨-, rr, c1, c2, -⟩ := p1 (by decide)
        have : rr = (RX1, TX1, 11) := Option.some.inj (c1.1.symm.trans rfl)
        subst this
        exact gd_anew (st := r.map vv) (t := 4) (E := "PathHouse$Node") (by decide) rfl (by decide) c2 k2 k3 hdg q2 q3 q4
      · obtain ⟨-, rr, c1, c2, -⟩ := p1 (by decide)
        have : rr = (RX6, TX6, 2) := Option.some.inj (c1.1.symm.trans rfl)
        subst this
        exact gd_anew (st := r.map vv) (t := 5) (E := "PathHouse$Row") (by decide) rfl (by decide) c2 k2 k3 hdg q2 q3 q4
      · exact gd_anew (st := r.map vv) (t := 3) (E := "java/lang/Object") (by decide) rfl (by decide) (p2 rfl) k2 k3 hdg q2 q3 q4
    · exact h1.elim
  | new idx =>
    simp only [ilenOK, beq_iff_eq] at hl; subst hl
    simp only [st1] at h
    split at h
    · rename_i kd heq
      obtain ⟨p1, p2⟩ := hP.2.2.1 idx kd heq
      by_cases hkd : kd < 100
      · rw [if_pos hkd] at h
        obtain ⟨hk1, rr, ⟨c1, c2, c3, c4, c5⟩, w1, w2, w3⟩ := p1 hkd
        obtain ⟨o, t', q1, q2, q3, q4⟩ := hK _ _ _ _ h
        have hkk : kd - 1 + 1 = kd := by omega
        refine ⟨o, t', q1, Nat.le_trans (Nat.le_succ _) q2, Nat.le_trans (Nat.le_add_right _ _) q3, gd_new (ci := kd - 1) (ty := fTy (kd - 1)) (f := fun k => dV (slN kd k)) c1 (by omega) c2 c3 (fun k hk => ?_) w1 w2 w3 hdg q2 q3 ?_⟩
        · rw [dflt_ok (c5 k hk)]
          have : slN kd k = tyN (fTy (kd - 1) k) := by unfold slN; rw [if_pos hkd]
          rw [this]
        · rw [hkk, hNew_tv (fun k => rfl)]
          exact q4
      · rw [if_neg hkd] at h
        obtain ⟨k12, h⟩ := gd_of h
        rw [Bool.and_eq_true] at k12
        have k1 : wgt st ≤ 8 := by simpa using k12.1
        have k2 : X.2.2.2.2 = [] := emp_of k12.2
        split at h
        · rename_i l3 is l4 ic l6 l9 d3 d4 d6 d9
          obtain ⟨e9, sn, text, he9, rfl, htw⟩ := hC.2.2.2.2 pc idx _ kd is l4 ic l6 hi heq hkd d4 d6
          obtain ⟨x3, y3, -⟩ := hC.1 _ _ _ d3
          obtain ⟨x4, y4, -⟩ := hC.1 _ _ _ d4
          obtain ⟨x6, y6, -⟩ := hC.1 _ _ _ d6
          obtain ⟨x9, y9, -⟩ := hC.1 _ _ _ d9
          simp only [ilenOK, beq_iff_eq] at y3 y4 y6 y9
          subst y3 y4 y6 y9
          have hh : M.2.2.2.2.2 = [] := by
            rcases hC.2.2.2.1 with ⟨z1, z2⟩ | ⟨s9, e8, hpc, ct, kd', z1, z2, -⟩
            · exact z1
            · rw [z2] at k2; cases k2
          refine ⟨_, _, h, Nat.le_succ _, Nat.le_add_right _ _, ?_⟩
          have g := gd_throwS (C := C) (M := M) (h0 := tv t0) (h := tv t) (fr := frD (d + 1)) (lo := loD (d + 1)) (lv := lv.map fv) (st := st.map vv) (f := fun k => dV (slN 0 k)) htw (by rw [hh]; intro q hq; cases hq) (by unfold frD; omega) (by unfold loD; omega) (by rw [wgt_cat]; exact k1) hdg x3 x4 x6 x9
          rw [hNew_tv (f := fun k => dV (slN 0 k)) (fun k => rfl)] at g
          exact g
        · exact h.elim
    · exact h.elim
  | checkcast idx =>
    simp only [ilenOK, beq_iff_eq] at hl; subst hl
    simp only [st1] at h
    split at h
    · rename_i kd heq
      obtain ⟨hkd0, h⟩ := gd_of h
      have hkd : kd = 3 ∨ kd = 9 ∨ kd = 10 ∨ kd = 11 := by simp at hkd0; omega
      obtain ⟨x, r, e1, h2⟩ := popR_of h
      subst e1; clear h
      cases x with
      | none => exact wg_step (st' := svR none :: r) (fun hx hb _ k => lv_castN hx hb hdg k) (hK _ _ _ _ h2)
      | some a =>
        obtain ⟨ha, h⟩ := h2
        obtain ⟨o, t', q1, q2, q3, q4⟩ := hK _ _ _ _ h
        refine ⟨o, t', q1, q2, q3, ?_⟩
        obtain ⟨p1, -⟩ := hP.2.2.1 idx kd heq
        rcases hkd with rfl | rfl | rfl | rfl
        · obtain ⟨-, rr, c1, c2, -⟩ := p1 (by decide)
          have : rr = (RX1, TX1, 11) := Option.some.inj (c1.1.symm.trans rfl)
          subst this
          exact gd_cast (ci := 2) (st := r.map vv) rfl (by decide) ha c2 (by decide +kernel) hdg q4
        · obtain ⟨-, rr, c1, c2, -⟩ := p1 (by decide)
          have : rr = (RX7, TX7, 2) := Option.some.inj (c1.1.symm.trans rfl)
          subst this
          exact gd_cast (ci := 8) (st := r.map vv) rfl (by decide) ha c2 (by decide +kernel) hdg q4
        · obtain ⟨-, rr, c1, c2, -⟩ := p1 (by decide)
          have : rr = (RX8, TX8, 8) := Option.some.inj (c1.1.symm.trans rfl)
          subst this
          exact gd_cast (ci := 9) (st := r.map vv) rfl (by decide) ha c2 (by decide +kernel) hdg q4
        · obtain ⟨-, rr, c1, c2, -⟩ := p1 (by decide)
          have : rr = (RX9, TX9, 9) := Option.some.inj (c1.1.symm.trans rfl)
          subst this
          exact gd_cast (ci := 10) (st := r.map vv) rfl (by decide) ha c2 (by decide +kernel) hdg q4
    · exact h.elim
  | athrow =>
    simp only [ilenOK, beq_iff_eq] at hl; subst hl
    obtain ⟨x, r, e1, h2⟩ := popR_of h
    subst e1; clear h
    obtain ⟨a, e2, h3⟩ := onR_of h2
    subst e2; clear h2
    obtain ⟨k1, h⟩ := h3
    obtain ⟨o, t', q1, q2, q3, q4⟩ := exc_sound (st := r.map vv) hC hK h
    exact ⟨o, t', q1, q2, q3, gd_athrow k1 hdg q4⟩
  | ireturn =>
    simp only [ilenOK, beq_iff_eq] at hl; subst hl
    obtain ⟨x, r, e1, h2⟩ := popI_of h
    subst e1; clear h
    obtain ⟨g1, h⟩ := gd_of h2
    cases emp_of g1
    split at h
    · rename_i ty heq
      obtain ⟨hok, h⟩ := okJ_of h
      refine ⟨_, t, h, Nat.le_refl _, Nat.le_refl _, gd_iret (ty := ty) (hC.2.1.symm.trans heq) ?_ hdg⟩
      cases ty <;> first | (exact hok.elim) | rfl | (rcases hok with rfl | rfl <;> decide)
    · exact h.elim
  | lreturn =>
    simp only [ilenOK, beq_iff_eq] at hl; subst hl
    obtain ⟨x, r, e1, h2⟩ := popJ_of h
    subst e1; clear h
    obtain ⟨g1, h⟩ := gd_of h2
    cases emp_of g1
    split at h
    · rename_i heq
      exact ⟨_, t, h, Nat.le_refl _, Nat.le_refl _, gd_lret (hC.2.1.symm.trans heq) hdg⟩
    · exact h.elim
  | areturn =>
    simp only [ilenOK, beq_iff_eq] at hl; subst hl
    obtain ⟨x, r, e1, h2⟩ := popR_of h
    subst e1; clear h
    obtain ⟨g1, h⟩ := gd_of h2
    cases emp_of g1
    have hv : vv (svR x) = .null ∨ ∃ a, vv (svR x) = .ref a := by
      cases x with
      | none => exact Or.inl rfl
      | some a => exact Or.inr ⟨a, rfl⟩
    split at h
    · rename_i n heq
      exact ⟨_, t, h, Nat.le_refl _, Nat.le_refl _, gd_aret (hC.2.1.symm.trans heq) (Or.inl ⟨n, rfl⟩) hv hdg⟩
    · rename_i n heq
      exact ⟨_, t, h, Nat.le_refl _, Nat.le_refl _, gd_aret (hC.2.1.symm.trans heq) (Or.inr ⟨n, rfl⟩) hv hdg⟩
    · exact h.elim
  | return_ =>
    simp only [ilenOK, beq_iff_eq] at hl; subst hl
    obtain ⟨g1, h2⟩ := gd_of h
    cases emp_of g1
    clear h
    split at h2
    · rename_i heq
      exact ⟨_, t, h2, Nat.le_refl _, Nat.le_refl _, gd_vret (hC.2.1.symm.trans heq) hdg⟩
    · exact h2.elim
  | invokevirtual idx =>
    simp only [ilenOK, beq_iff_eq] at hl; subst hl
    simp only [st1] at h
    split at h
    · rename_i j heq
      split at h
      · rename_i na ci rk heq2
        obtain ⟨as, r, ha, e1, h2⟩ := popN_of na h
        subst e1; clear h
        obtain ⟨x, r, e1, h3⟩ := popR_of h2
        subst e1; clear h2
        obtain ⟨b, e2, h4⟩ := onR_of h3
        subst e2; clear h3
        obtain ⟨g1, hkb, q, hq, o1, t1, hpost, hn1, hu1, hcm⟩ := gd_of h4
        rw [Bool.and_eq_true] at g1
        have hci : ci < 99 := by simpa using g1.1
        have hw : wgt r ≤ 8 := by simpa using g1.2
        rcases hP.2.1 idx j heq with ⟨rfl, hno, -⟩ | ⟨-, q9, na9, ci9, rk9, m1, m2, ⟨e1, e2, e3, e4, e5, e6, e7⟩, ⟨ko, -, -⟩, hlk⟩
        · rw [hno] at heq2; cases heq2
        · cases Option.some.inj (m1.symm.trans hq)
          cases Option.some.inj (m2.symm.trans heq2)
          obtain ⟨i1, rr, i2, i3⟩ := ko hci
          obtain ⟨o, t', z1, z2, z3, z4⟩ := aft_sound (d := d + 1) hC hK hpost
          refine ⟨o, t', z1, Nat.le_trans hn1 z2, Nat.le_trans hu1 z3, ?_⟩
          have g := gd_callV (C := C) (M := M) (fr := frD (d + 1)) (lo := loD (d + 1)) (h0 := tv t0) (o' := oo o) (h' := tv t') (lv := lv.map fv) (rest := r.map vv) (pc := pc) (idx := idx) (b := b) (as := as.map vv) hcm e1 e3 e4 (by unfold frD; omega) (by unfold loD; omega) hn1 hu1 z2 z3 i2 hci hkb hlk i1 i3 e5 (fun sig hsig => by rw [List.length_map, ha]; exact e6 sig hsig) hdg (by rw [wgt_cat]; exact hw) z4
          rw [← List.map_reverse] at g
          simpa [List.map_append, vv, svR, va_rf] using g
      · exact h.elim
    · exact h.elim
  | invokestatic idx =>
    simp only [ilenOK, beq_iff_eq] at hl; subst hl
    simp only [st1] at h
    split at h
    · rename_i j heq
      split at h
      · rename_i na ci rk heq2
        obtain ⟨as, r, ha, e1, h2⟩ := popN_of na h
        subst e1; clear h
        obtain ⟨g1, q, hq, o1, t1, hpost, hn1, hu1, hcm⟩ := gd_of h2
        rw [Bool.and_eq_true] at g1
        have hci : ci = 1000 := by simpa using g1.1
        have hw : wgt r ≤ 8 := by simpa using g1.2
        rcases hP.2.1 idx j heq with ⟨rfl, hno, -⟩ | ⟨-, q9, na9, ci9, rk9, m1, m2, ⟨e1, e2, e3, e4, e5, e6, e7⟩, ⟨-, ko, -⟩, hlk⟩
        · rw [hno] at heq2; cases heq2
        · cases Option.some.inj (m1.symm.trans hq)
          cases Option.some.inj (m2.symm.trans heq2)
          have i1 := ko hci
          obtain ⟨o, t', z1, z2, z3, z4⟩ := aft_sound (d := d + 1) hC hK hpost
          refine ⟨o, t', z1, Nat.le_trans hn1 z2, Nat.le_trans hu1 z3, ?_⟩
          have g := gd_callS (C := C) (M := M) (fr := frD (d + 1)) (lo := loD (d + 1)) (h0 := tv t0) (o' := oo o) (h' := tv t') (lv := lv.map fv) (rest := r.map vv) (pc := pc) (idx := idx) (as := as.map vv) hcm e1 e2 e3 e4 (by unfold frD; omega) (by unfold loD; omega) hn1 hu1 z2 z3 hlk i1 e5 (fun sig hsig => by rw [List.length_map, ha]; exact e6 sig hsig) hdg (by rw [wgt_cat]; exact hw) z4
          rw [← List.map_reverse] at g
          simpa [List.map_append, vv, svR, va_rf] using g
      · exact h.elim
    · exact h.elim
  | invokespecial idx =>
    simp only [ilenOK, beq_iff_eq] at hl; subst hl
    simp only [st1] at h
    split at h
    · rename_i j heq
      rcases hP.2.1 idx j heq with ⟨rfl, -, w1, w2, w3⟩ | ⟨hj, q9, na9, ci9, rk9, m1, m2, ⟨e1, e2, e3, e4, e5, e6, e7⟩, ⟨-, -, ko⟩, hlk⟩
      · rw [if_pos rfl] at h
        obtain ⟨x, r, e1, h2⟩ := popR_of h
        subst e1; clear h
        obtain ⟨b, e2, h⟩ := onR_of h2
        subst e2
        obtain ⟨g1, h⟩ := gd_of h
        have hw : wgt r ≤ 8 := by simpa using g1
        obtain ⟨o, t', q1, q2, q3, q4⟩ := hK _ _ _ _ h
        exact ⟨o, t', q1, q2, q3, gd_objInit (b := b) w1 w2 w3 (by unfold frD; omega) (by unfold loD; omega) (by rw [wgt_cat]; exact hw) hdg q4⟩
      · rw [if_neg hj, m2] at h
        obtain ⟨as, r, ha, e1', h2⟩ := popN_of na9 h
        subst e1'; clear h
        obtain ⟨x, r, e1', h3⟩ := popR_of h2
        subst e1'; clear h2
        obtain ⟨b, e2', h4⟩ := onR_of h3
        subst e2'; clear h3
        obtain ⟨g1, q, hq, o1, t1, hpost, hn1, hu1, hcm⟩ := gd_of h4
        rw [Bool.and_eq_true] at g1
        have hci : ci9 = 2000 := by simpa using g1.1
        have hw : wgt r ≤ 8 := by simpa using g1.2
        cases Option.some.inj (m1.symm.trans hq)
        obtain ⟨i1, i2, i3⟩ := ko hci
        rw [i3] at hcm e3
        obtain ⟨o, t', z1, z2, z3, z4⟩ := aft_sound (d := d + 1) hC hK hpost
        refine ⟨o, t', z1, Nat.le_trans hn1 z2, Nat.le_trans hu1 z3, ?_⟩
        have g := gd_callI (C := C) (M := M) (fr := frD (d + 1)) (lo := loD (d + 1)) (h0 := tv t0) (o' := oo o) (h' := tv t') (lv := lv.map fv) (rest := r.map vv) (pc := pc) (idx := idx) (b := b) (as := as.map vv) hcm e3 e4 (by unfold frD; omega) (by unfold loD; omega) hn1 hu1 z2 z3 hlk i2 i1 e5 (fun sig hsig => by rw [List.length_map, ha]; exact e6 sig hsig) hdg (by rw [wgt_cat]; exact hw) z4
        rw [← List.map_reverse] at g
        simpa [List.map_append, vv, svR, va_rf] using g
    · exact h.elim
  | _ => exact h.elim
theorem wpc_sound (hP : PoolOK M.1 X.2.1 mtab mt) (hC : CodeOK M X) (hsc : ∀ s9, sc = some s9 → s9 = cX C) {cut : List Nat} {Kc : Nat → LV → List SV → Ht → Prop} (hKc : ∀ pc lv st t, pc ∈ cut → Kc pc lv st t → WG C M (d + 1) t0 Q pc lv st t) :
    ∀ (n pc : Nat) (lv : LV) (st : List SV) (t : Ht), wpc (CalG C mtab d) mt (cS C) (cG C) sc X Q cut Kc n pc lv st t → WG C M (d + 1) t0 Q pc lv st t
  | 0, _, _, _, _, h => h.elim
  | n + 1, pc, lv, st, t, h => by
    unfold wpc at h
    split at h
    · rename_i i len heq
      refine st1_sound hP hC (fun pc' lv' st' t' h' => ?_) heq hsc h
      by_cases hm : pc' ∈ cut
      · rw [if_pos hm] at h'; exact hKc _ _ _ _ hm h'
      · rw [if_neg hm] at h'; exact wpc_sound hP hC hsc hKc n pc' lv' st' t' h'
    · exact h.elim
end S2
end
