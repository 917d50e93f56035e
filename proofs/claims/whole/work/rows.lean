section
-- ===== PART A: goes FIRST, ahead of the names: the tables' words, and 'selects' of the private methods out of them =====
/-- a private method of a class that the tables say can be made, by its rows of tables_1 -/
def lw_okq (q : MethodName × Nat) : Prop := (q.1.cls ≠ "java/lang/invoke/MethodHandle" ∧ q.1.cls ≠ "java/lang/invoke/VarHandle") ∧ Cond.instantiable q.1.cls q.2 ∈ tables_1 ∧ Cond.privateMethod q.1 ∈ tables_1 ∧ Cond.instanceMethod q.1 ∈ tables_1
theorem lw_p0 : lw_okq (⟨"PathHouse", "tapeFour", "(I)V"⟩, 10) := ⟨⟨by decide +kernel, by decide +kernel⟩, List.mem_of_getElem? (i := 36) (by decide +kernel), List.mem_of_getElem? (i := 188) (by decide +kernel), List.mem_of_getElem? (i := 189) (by decide +kernel)⟩
theorem lw_p1 : lw_okq (⟨"PathHouse", "begin", "(I)Z"⟩, 10) := ⟨⟨by decide +kernel, by decide +kernel⟩, List.mem_of_getElem? (i := 36) (by decide +kernel), List.mem_of_getElem? (i := 197) (by decide +kernel), List.mem_of_getElem? (i := 198) (by decide +kernel)⟩
theorem lw_p2 : lw_okq (⟨"PathHouse$Reader", "begin", "(I)V"⟩, 7) := ⟨⟨by decide +kernel, by decide +kernel⟩, List.mem_of_getElem? (i := 44) (by decide +kernel), List.mem_of_getElem? (i := 201) (by decide +kernel), List.mem_of_getElem? (i := 202) (by decide +kernel)⟩
theorem lw_p3 : lw_okq (⟨"PathHouse$ValueReader", "whole", "()LPathHouse$Node;"⟩, 3) := ⟨⟨by decide +kernel, by decide +kernel⟩, List.mem_of_getElem? (i := 79) (by decide +kernel), List.mem_of_getElem? (i := 208) (by decide +kernel), List.mem_of_getElem? (i := 209) (by decide +kernel)⟩
theorem lw_p4 : lw_okq (⟨"PathHouse$Reader", "skipBlanks", "()V"⟩, 7) := ⟨⟨by decide +kernel, by decide +kernel⟩, List.mem_of_getElem? (i := 44) (by decide +kernel), List.mem_of_getElem? (i := 212) (by decide +kernel), List.mem_of_getElem? (i := 213) (by decide +kernel)⟩
theorem lw_p5 : lw_okq (⟨"PathHouse$Reader", "isBlank", "()Z"⟩, 7) := ⟨⟨by decide +kernel, by decide +kernel⟩, List.mem_of_getElem? (i := 44) (by decide +kernel), List.mem_of_getElem? (i := 216) (by decide +kernel), List.mem_of_getElem? (i := 217) (by decide +kernel)⟩
theorem lw_p6 : lw_okq (⟨"PathHouse$Reader", "here", "()I"⟩, 7) := ⟨⟨by decide +kernel, by decide +kernel⟩, List.mem_of_getElem? (i := 44) (by decide +kernel), List.mem_of_getElem? (i := 220) (by decide +kernel), List.mem_of_getElem? (i := 221) (by decide +kernel)⟩
theorem lw_p7 : lw_okq (⟨"PathHouse$ValueReader", "readNode", "(LPathHouse$Node;I)LPathHouse$Node;"⟩, 3) := ⟨⟨by decide +kernel, by decide +kernel⟩, List.mem_of_getElem? (i := 79) (by decide +kernel), List.mem_of_getElem? (i := 224) (by decide +kernel), List.mem_of_getElem? (i := 225) (by decide +kernel)⟩
theorem lw_p8 : lw_okq (⟨"PathHouse$Reader", "fail", "(II)V"⟩, 7) := ⟨⟨by decide +kernel, by decide +kernel⟩, List.mem_of_getElem? (i := 44) (by decide +kernel), List.mem_of_getElem? (i := 235) (by decide +kernel), List.mem_of_getElem? (i := 236) (by decide +kernel)⟩
theorem lw_p9 : lw_okq (⟨"java/lang/Throwable", "fillInStackTrace", "(I)Ljava/lang/Throwable;"⟩, 6) := ⟨⟨by decide +kernel, by decide +kernel⟩, List.mem_of_getElem? (i := 278) (by decide +kernel), List.mem_of_getElem? (i := 276) (by decide +kernel), List.mem_of_getElem? (i := 277) (by decide +kernel)⟩
theorem lw_p10 : lw_okq (⟨"PathHouse$ValueReader", "readRest", "(LPathHouse$Node;)V"⟩, 3) := ⟨⟨by decide +kernel, by decide +kernel⟩, List.mem_of_getElem? (i := 79) (by decide +kernel), List.mem_of_getElem? (i := 399) (by decide +kernel), List.mem_of_getElem? (i := 400) (by decide +kernel)⟩
theorem lw_p11 : lw_okq (⟨"PathHouse$Reader", "expectWord", "(Ljava/lang/String;)V"⟩, 7) := ⟨⟨by decide +kernel, by decide +kernel⟩, List.mem_of_getElem? (i := 44) (by decide +kernel), List.mem_of_getElem? (i := 404) (by decide +kernel), List.mem_of_getElem? (i := 405) (by decide +kernel)⟩
theorem lw_p12 : lw_okq (⟨"PathHouse$Reader", "expect", "(I)V"⟩, 7) := ⟨⟨by decide +kernel, by decide +kernel⟩, List.mem_of_getElem? (i := 44) (by decide +kernel), List.mem_of_getElem? (i := 456) (by decide +kernel), List.mem_of_getElem? (i := 457) (by decide +kernel)⟩
theorem lw_p13 : lw_okq (⟨"PathHouse$ValueReader", "readInt", "()J"⟩, 3) := ⟨⟨by decide +kernel, by decide +kernel⟩, List.mem_of_getElem? (i := 79) (by decide +kernel), List.mem_of_getElem? (i := 463) (by decide +kernel), List.mem_of_getElem? (i := 464) (by decide +kernel)⟩
theorem lw_p14 : lw_okq (⟨"PathHouse$Reader", "wholeNumber", "(Z)J"⟩, 7) := ⟨⟨by decide +kernel, by decide +kernel⟩, List.mem_of_getElem? (i := 44) (by decide +kernel), List.mem_of_getElem? (i := 467) (by decide +kernel), List.mem_of_getElem? (i := 468) (by decide +kernel)⟩
theorem lw_p15 : lw_okq (⟨"PathHouse$Reader", "string", "()[I"⟩, 7) := ⟨⟨by decide +kernel, by decide +kernel⟩, List.mem_of_getElem? (i := 44) (by decide +kernel), List.mem_of_getElem? (i := 482) (by decide +kernel), List.mem_of_getElem? (i := 483) (by decide +kernel)⟩
def lw_privs_1 : List (MethodName × Nat) := [(⟨"PathHouse", "tapeFour", "(I)V"⟩, 10), (⟨"PathHouse", "begin", "(I)Z"⟩, 10), (⟨"PathHouse$Reader", "begin", "(I)V"⟩, 7), (⟨"PathHouse$ValueReader", "whole", "()LPathHouse$Node;"⟩, 3), (⟨"PathHouse$Reader", "skipBlanks", "()V"⟩, 7), (⟨"PathHouse$Reader", "isBlank", "()Z"⟩, 7), (⟨"PathHouse$Reader", "here", "()I"⟩, 7), (⟨"PathHouse$ValueReader", "readNode", "(LPathHouse$Node;I)LPathHouse$Node;"⟩, 3), (⟨"PathHouse$Reader", "fail", "(II)V"⟩, 7), (⟨"java/lang/Throwable", "fillInStackTrace", "(I)Ljava/lang/Throwable;"⟩, 6), (⟨"PathHouse$ValueReader", "readRest", "(LPathHouse$Node;)V"⟩, 3), (⟨"PathHouse$Reader", "expectWord", "(Ljava/lang/String;)V"⟩, 7), (⟨"PathHouse$Reader", "expect", "(I)V"⟩, 7), (⟨"PathHouse$ValueReader", "readInt", "()J"⟩, 3), (⟨"PathHouse$Reader", "wholeNumber", "(Z)J"⟩, 7), (⟨"PathHouse$Reader", "string", "()[I"⟩, 7)]
theorem lw_r1 : ∀ q ∈ lw_privs_1, lw_okq q := List.forall_mem_cons.mpr ⟨lw_p0, List.forall_mem_cons.mpr ⟨lw_p1, List.forall_mem_cons.mpr ⟨lw_p2, List.forall_mem_cons.mpr ⟨lw_p3, List.forall_mem_cons.mpr ⟨lw_p4, List.forall_mem_cons.mpr ⟨lw_p5, List.forall_mem_cons.mpr ⟨lw_p6, List.forall_mem_cons.mpr ⟨lw_p7, List.forall_mem_cons.mpr ⟨lw_p8, List.forall_mem_cons.mpr ⟨lw_p9, List.forall_mem_cons.mpr ⟨lw_p10, List.forall_mem_cons.mpr ⟨lw_p11, List.forall_mem_cons.mpr ⟨lw_p12, List.forall_mem_cons.mpr ⟨lw_p13, List.forall_mem_cons.mpr ⟨lw_p14, List.forall_mem_cons.mpr ⟨lw_p15, fun _ h => absurd h List.not_mem_nil⟩⟩⟩⟩⟩⟩⟩⟩⟩⟩⟩⟩⟩⟩⟩⟩
theorem lw_p16 : lw_okq (⟨"PathHouse$Reader", "escaped", "(I)I"⟩, 7) := ⟨⟨by decide +kernel, by decide +kernel⟩, List.mem_of_getElem? (i := 44) (by decide +kernel), List.mem_of_getElem? (i := 486) (by decide +kernel), List.mem_of_getElem? (i := 487) (by decide +kernel)⟩
theorem lw_p17 : lw_okq (⟨"PathHouse$Reader", "hexFour", "(Z)I"⟩, 7) := ⟨⟨by decide +kernel, by decide +kernel⟩, List.mem_of_getElem? (i := 44) (by decide +kernel), List.mem_of_getElem? (i := 493) (by decide +kernel), List.mem_of_getElem? (i := 494) (by decide +kernel)⟩
theorem lw_p18 : lw_okq (⟨"PathHouse$Reader", "codePoint", "()I"⟩, 7) := ⟨⟨by decide +kernel, by decide +kernel⟩, List.mem_of_getElem? (i := 44) (by decide +kernel), List.mem_of_getElem? (i := 503) (by decide +kernel), List.mem_of_getElem? (i := 504) (by decide +kernel)⟩
theorem lw_p19 : lw_okq (⟨"PathHouse$Reader", "byteAt", "(I)I"⟩, 7) := ⟨⟨by decide +kernel, by decide +kernel⟩, List.mem_of_getElem? (i := 44) (by decide +kernel), List.mem_of_getElem? (i := 510) (by decide +kernel), List.mem_of_getElem? (i := 511) (by decide +kernel)⟩
theorem lw_p20 : lw_okq (⟨"PathHouse$Reader", "keep", "(I)V"⟩, 7) := ⟨⟨by decide +kernel, by decide +kernel⟩, List.mem_of_getElem? (i := 44) (by decide +kernel), List.mem_of_getElem? (i := 519) (by decide +kernel), List.mem_of_getElem? (i := 520) (by decide +kernel)⟩
theorem lw_p21 : lw_okq (⟨"PathHouse$Reader", "kept", "()[I"⟩, 7) := ⟨⟨by decide +kernel, by decide +kernel⟩, List.mem_of_getElem? (i := 44) (by decide +kernel), List.mem_of_getElem? (i := 523) (by decide +kernel), List.mem_of_getElem? (i := 524) (by decide +kernel)⟩
theorem lw_p22 : lw_okq (⟨"PathHouse$ValueReader", "readElements", "(LPathHouse$Node;)V"⟩, 3) := ⟨⟨by decide +kernel, by decide +kernel⟩, List.mem_of_getElem? (i := 79) (by decide +kernel), List.mem_of_getElem? (i := 541) (by decide +kernel), List.mem_of_getElem? (i := 542) (by decide +kernel)⟩
theorem lw_p23 : lw_okq (⟨"PathHouse$ValueReader", "takesEmpty", "(I)Z"⟩, 3) := ⟨⟨by decide +kernel, by decide +kernel⟩, List.mem_of_getElem? (i := 79) (by decide +kernel), List.mem_of_getElem? (i := 545) (by decide +kernel), List.mem_of_getElem? (i := 546) (by decide +kernel)⟩
theorem lw_p24 : lw_okq (⟨"PathHouse$Node", "adopt", "(LPathHouse$Node;[I)V"⟩, 11) := ⟨⟨by decide +kernel, by decide +kernel⟩, List.mem_of_getElem? (i := 307) (by decide +kernel), List.mem_of_getElem? (i := 549) (by decide +kernel), List.mem_of_getElem? (i := 550) (by decide +kernel)⟩
theorem lw_p25 : lw_okq (⟨"java/util/ArrayList", "add", "(Ljava/lang/Object;[Ljava/lang/Object;I)V"⟩, 3) := ⟨⟨by decide +kernel, by decide +kernel⟩, List.mem_of_getElem? (i := 313) (by decide +kernel), List.mem_of_getElem? (i := 561) (by decide +kernel), List.mem_of_getElem? (i := 562) (by decide +kernel)⟩
theorem lw_p26 : lw_okq (⟨"java/util/ArrayList", "grow", "()[Ljava/lang/Object;"⟩, 3) := ⟨⟨by decide +kernel, by decide +kernel⟩, List.mem_of_getElem? (i := 313) (by decide +kernel), List.mem_of_getElem? (i := 565) (by decide +kernel), List.mem_of_getElem? (i := 566) (by decide +kernel)⟩
theorem lw_p27 : lw_okq (⟨"java/util/ArrayList", "grow", "(I)[Ljava/lang/Object;"⟩, 3) := ⟨⟨by decide +kernel, by decide +kernel⟩, List.mem_of_getElem? (i := 313) (by decide +kernel), List.mem_of_getElem? (i := 569) (by decide +kernel), List.mem_of_getElem? (i := 570) (by decide +kernel)⟩
theorem lw_p28 : lw_okq (⟨"PathHouse$Reader", "takeComma", "()Z"⟩, 7) := ⟨⟨by decide +kernel, by decide +kernel⟩, List.mem_of_getElem? (i := 44) (by decide +kernel), List.mem_of_getElem? (i := 618) (by decide +kernel), List.mem_of_getElem? (i := 619) (by decide +kernel)⟩
theorem lw_p29 : lw_okq (⟨"PathHouse$ValueReader", "readMembers", "(LPathHouse$Node;)V"⟩, 3) := ⟨⟨by decide +kernel, by decide +kernel⟩, List.mem_of_getElem? (i := 79) (by decide +kernel), List.mem_of_getElem? (i := 624) (by decide +kernel), List.mem_of_getElem? (i := 625) (by decide +kernel)⟩
theorem lw_p30 : lw_okq (⟨"PathHouse$ValueReader", "readMember", "(LPathHouse$Node;)V"⟩, 3) := ⟨⟨by decide +kernel, by decide +kernel⟩, List.mem_of_getElem? (i := 79) (by decide +kernel), List.mem_of_getElem? (i := 628) (by decide +kernel), List.mem_of_getElem? (i := 629) (by decide +kernel)⟩
theorem lw_p31 : lw_okq (⟨"PathHouse$Node", "member", "([I)LPathHouse$Node;"⟩, 11) := ⟨⟨by decide +kernel, by decide +kernel⟩, List.mem_of_getElem? (i := 307) (by decide +kernel), List.mem_of_getElem? (i := 632) (by decide +kernel), List.mem_of_getElem? (i := 633) (by decide +kernel)⟩
def lw_privs_2 : List (MethodName × Nat) := [(⟨"PathHouse$Reader", "escaped", "(I)I"⟩, 7), (⟨"PathHouse$Reader", "hexFour", "(Z)I"⟩, 7), (⟨"PathHouse$Reader", "codePoint", "()I"⟩, 7), (⟨"PathHouse$Reader", "byteAt", "(I)I"⟩, 7), (⟨"PathHouse$Reader", "keep", "(I)V"⟩, 7), (⟨"PathHouse$Reader", "kept", "()[I"⟩, 7), (⟨"PathHouse$ValueReader", "readElements", "(LPathHouse$Node;)V"⟩, 3), (⟨"PathHouse$ValueReader", "takesEmpty", "(I)Z"⟩, 3), (⟨"PathHouse$Node", "adopt", "(LPathHouse$Node;[I)V"⟩, 11), (⟨"java/util/ArrayList", "add", "(Ljava/lang/Object;[Ljava/lang/Object;I)V"⟩, 3), (⟨"java/util/ArrayList", "grow", "()[Ljava/lang/Object;"⟩, 3), (⟨"java/util/ArrayList", "grow", "(I)[Ljava/lang/Object;"⟩, 3), (⟨"PathHouse$Reader", "takeComma", "()Z"⟩, 7), (⟨"PathHouse$ValueReader", "readMembers", "(LPathHouse$Node;)V"⟩, 3), (⟨"PathHouse$ValueReader", "readMember", "(LPathHouse$Node;)V"⟩, 3), (⟨"PathHouse$Node", "member", "([I)LPathHouse$Node;"⟩, 11)]
theorem lw_r2 : ∀ q ∈ lw_privs_2, lw_okq q := List.forall_mem_cons.mpr ⟨lw_p16, List.forall_mem_cons.mpr ⟨lw_p17, List.forall_mem_cons.mpr ⟨lw_p18, List.forall_mem_cons.mpr ⟨lw_p19, List.forall_mem_cons.mpr ⟨lw_p20, List.forall_mem_cons.mpr ⟨lw_p21, List.forall_mem_cons.mpr ⟨lw_p22, List.forall_mem_cons.mpr ⟨lw_p23, List.forall_mem_cons.mpr ⟨lw_p24, List.forall_mem_cons.mpr ⟨lw_p25, List.forall_mem_cons.mpr ⟨lw_p26, List.forall_mem_cons.mpr ⟨lw_p27, List.forall_mem_cons.mpr ⟨lw_p28, List.forall_mem_cons.mpr ⟨lw_p29, List.forall_mem_cons.mpr ⟨lw_p30, List.forall_mem_cons.mpr ⟨lw_p31, fun _ h => absurd h List.not_mem_nil⟩⟩⟩⟩⟩⟩⟩⟩⟩⟩⟩⟩⟩⟩⟩⟩
theorem lw_p32 : lw_okq (⟨"PathHouse$Finder", "forget", "()V"⟩, 5) := ⟨⟨by decide +kernel, by decide +kernel⟩, List.mem_of_getElem? (i := 114) (by decide +kernel), List.mem_of_getElem? (i := 652) (by decide +kernel), List.mem_of_getElem? (i := 653) (by decide +kernel)⟩
theorem lw_p33 : lw_okq (⟨"PathHouse$QueryReader", "whole", "()LPathHouse$Path;"⟩, 4) := ⟨⟨by decide +kernel, by decide +kernel⟩, List.mem_of_getElem? (i := 95) (by decide +kernel), List.mem_of_getElem? (i := 660) (by decide +kernel), List.mem_of_getElem? (i := 661) (by decide +kernel)⟩
theorem lw_p34 : lw_okq (⟨"PathHouse$QueryReader", "readSegments", "(LPathHouse$Path;Z)I"⟩, 4) := ⟨⟨by decide +kernel, by decide +kernel⟩, List.mem_of_getElem? (i := 95) (by decide +kernel), List.mem_of_getElem? (i := 691) (by decide +kernel), List.mem_of_getElem? (i := 692) (by decide +kernel)⟩
theorem lw_p35 : lw_okq (⟨"PathHouse$QueryReader", "readSegment", "(LPathHouse$Path;Z)V"⟩, 4) := ⟨⟨by decide +kernel, by decide +kernel⟩, List.mem_of_getElem? (i := 95) (by decide +kernel), List.mem_of_getElem? (i := 696) (by decide +kernel), List.mem_of_getElem? (i := 697) (by decide +kernel)⟩
theorem lw_p36 : lw_okq (⟨"PathHouse$QueryReader", "readBrackets", "(LPathHouse$Segment;Z)Z"⟩, 4) := ⟨⟨by decide +kernel, by decide +kernel⟩, List.mem_of_getElem? (i := 95) (by decide +kernel), List.mem_of_getElem? (i := 719) (by decide +kernel), List.mem_of_getElem? (i := 720) (by decide +kernel)⟩
theorem lw_p37 : lw_okq (⟨"PathHouse$QueryReader", "readSelector", "(Z)LPathHouse$Selector;"⟩, 4) := ⟨⟨by decide +kernel, by decide +kernel⟩, List.mem_of_getElem? (i := 95) (by decide +kernel), List.mem_of_getElem? (i := 724) (by decide +kernel), List.mem_of_getElem? (i := 725) (by decide +kernel)⟩
theorem lw_p38 : lw_okq (⟨"PathHouse$QueryReader", "atString", "()Z"⟩, 4) := ⟨⟨by decide +kernel, by decide +kernel⟩, List.mem_of_getElem? (i := 95) (by decide +kernel), List.mem_of_getElem? (i := 728) (by decide +kernel), List.mem_of_getElem? (i := 729) (by decide +kernel)⟩
theorem lw_p39 : lw_okq (⟨"PathHouse$QueryReader", "atInt", "()Z"⟩, 4) := ⟨⟨by decide +kernel, by decide +kernel⟩, List.mem_of_getElem? (i := 95) (by decide +kernel), List.mem_of_getElem? (i := 773) (by decide +kernel), List.mem_of_getElem? (i := 774) (by decide +kernel)⟩
theorem lw_p40 : lw_okq (⟨"PathHouse$QueryReader", "readIndexed", "(Z)LPathHouse$Selector;"⟩, 4) := ⟨⟨by decide +kernel, by decide +kernel⟩, List.mem_of_getElem? (i := 95) (by decide +kernel), List.mem_of_getElem? (i := 778) (by decide +kernel), List.mem_of_getElem? (i := 779) (by decide +kernel)⟩
theorem lw_p41 : lw_okq (⟨"PathHouse$QueryReader", "readInt", "(Z)J"⟩, 4) := ⟨⟨by decide +kernel, by decide +kernel⟩, List.mem_of_getElem? (i := 95) (by decide +kernel), List.mem_of_getElem? (i := 782) (by decide +kernel), List.mem_of_getElem? (i := 783) (by decide +kernel)⟩
theorem lw_p42 : lw_okq (⟨"PathHouse$QueryReader", "note", "(II)V"⟩, 4) := ⟨⟨by decide +kernel, by decide +kernel⟩, List.mem_of_getElem? (i := 95) (by decide +kernel), List.mem_of_getElem? (i := 788) (by decide +kernel), List.mem_of_getElem? (i := 789) (by decide +kernel)⟩
theorem lw_p43 : lw_okq (⟨"PathHouse$QueryReader", "readSlice", "(ZJ)LPathHouse$Selector;"⟩, 4) := ⟨⟨by decide +kernel, by decide +kernel⟩, List.mem_of_getElem? (i := 95) (by decide +kernel), List.mem_of_getElem? (i := 792) (by decide +kernel), List.mem_of_getElem? (i := 793) (by decide +kernel)⟩
theorem lw_p44 : lw_okq (⟨"PathHouse$QueryReader", "readFilter", "()LPathHouse$Selector;"⟩, 4) := ⟨⟨by decide +kernel, by decide +kernel⟩, List.mem_of_getElem? (i := 95) (by decide +kernel), List.mem_of_getElem? (i := 796) (by decide +kernel), List.mem_of_getElem? (i := 797) (by decide +kernel)⟩
theorem lw_p45 : lw_okq (⟨"PathHouse$QueryReader", "enter", "()V"⟩, 4) := ⟨⟨by decide +kernel, by decide +kernel⟩, List.mem_of_getElem? (i := 95) (by decide +kernel), List.mem_of_getElem? (i := 800) (by decide +kernel), List.mem_of_getElem? (i := 801) (by decide +kernel)⟩
theorem lw_p46 : lw_okq (⟨"PathHouse$QueryReader", "readOr", "(LPathHouse$Term;)LPathHouse$Term;"⟩, 4) := ⟨⟨by decide +kernel, by decide +kernel⟩, List.mem_of_getElem? (i := 95) (by decide +kernel), List.mem_of_getElem? (i := 804) (by decide +kernel), List.mem_of_getElem? (i := 805) (by decide +kernel)⟩
theorem lw_p47 : lw_okq (⟨"PathHouse$QueryReader", "readAnd", "(LPathHouse$Term;)LPathHouse$Term;"⟩, 4) := ⟨⟨by decide +kernel, by decide +kernel⟩, List.mem_of_getElem? (i := 95) (by decide +kernel), List.mem_of_getElem? (i := 855) (by decide +kernel), List.mem_of_getElem? (i := 856) (by decide +kernel)⟩
def lw_privs_3 : List (MethodName × Nat) := [(⟨"PathHouse$Finder", "forget", "()V"⟩, 5), (⟨"PathHouse$QueryReader", "whole", "()LPathHouse$Path;"⟩, 4), (⟨"PathHouse$QueryReader", "readSegments", "(LPathHouse$Path;Z)I"⟩, 4), (⟨"PathHouse$QueryReader", "readSegment", "(LPathHouse$Path;Z)V"⟩, 4), (⟨"PathHouse$QueryReader", "readBrackets", "(LPathHouse$Segment;Z)Z"⟩, 4), (⟨"PathHouse$QueryReader", "readSelector", "(Z)LPathHouse$Selector;"⟩, 4), (⟨"PathHouse$QueryReader", "atString", "()Z"⟩, 4), (⟨"PathHouse$QueryReader", "atInt", "()Z"⟩, 4), (⟨"PathHouse$QueryReader", "readIndexed", "(Z)LPathHouse$Selector;"⟩, 4), (⟨"PathHouse$QueryReader", "readInt", "(Z)J"⟩, 4), (⟨"PathHouse$QueryReader", "note", "(II)V"⟩, 4), (⟨"PathHouse$QueryReader", "readSlice", "(ZJ)LPathHouse$Selector;"⟩, 4), (⟨"PathHouse$QueryReader", "readFilter", "()LPathHouse$Selector;"⟩, 4), (⟨"PathHouse$QueryReader", "enter", "()V"⟩, 4), (⟨"PathHouse$QueryReader", "readOr", "(LPathHouse$Term;)LPathHouse$Term;"⟩, 4), (⟨"PathHouse$QueryReader", "readAnd", "(LPathHouse$Term;)LPathHouse$Term;"⟩, 4)]
theorem lw_r3 : ∀ q ∈ lw_privs_3, lw_okq q := List.forall_mem_cons.mpr ⟨lw_p32, List.forall_mem_cons.mpr ⟨lw_p33, List.forall_mem_cons.mpr ⟨lw_p34, List.forall_mem_cons.mpr ⟨lw_p35, List.forall_mem_cons.mpr ⟨lw_p36, List.forall_mem_cons.mpr ⟨lw_p37, List.forall_mem_cons.mpr ⟨lw_p38, List.forall_mem_cons.mpr ⟨lw_p39, List.forall_mem_cons.mpr ⟨lw_p40, List.forall_mem_cons.mpr ⟨lw_p41, List.forall_mem_cons.mpr ⟨lw_p42, List.forall_mem_cons.mpr ⟨lw_p43, List.forall_mem_cons.mpr ⟨lw_p44, List.forall_mem_cons.mpr ⟨lw_p45, List.forall_mem_cons.mpr ⟨lw_p46, List.forall_mem_cons.mpr ⟨lw_p47, fun _ h => absurd h List.not_mem_nil⟩⟩⟩⟩⟩⟩⟩⟩⟩⟩⟩⟩⟩⟩⟩⟩
theorem lw_p48 : lw_okq (⟨"PathHouse$QueryReader", "readBasic", "()LPathHouse$Term;"⟩, 4) := ⟨⟨by decide +kernel, by decide +kernel⟩, List.mem_of_getElem? (i := 95) (by decide +kernel), List.mem_of_getElem? (i := 859) (by decide +kernel), List.mem_of_getElem? (i := 860) (by decide +kernel)⟩
theorem lw_p49 : lw_okq (⟨"PathHouse$QueryReader", "readGroup", "()LPathHouse$Term;"⟩, 4) := ⟨⟨by decide +kernel, by decide +kernel⟩, List.mem_of_getElem? (i := 95) (by decide +kernel), List.mem_of_getElem? (i := 863) (by decide +kernel), List.mem_of_getElem? (i := 864) (by decide +kernel)⟩
theorem lw_p50 : lw_okq (⟨"PathHouse$QueryReader", "readNegatedTest", "()LPathHouse$Term;"⟩, 4) := ⟨⟨by decide +kernel, by decide +kernel⟩, List.mem_of_getElem? (i := 95) (by decide +kernel), List.mem_of_getElem? (i := 868) (by decide +kernel), List.mem_of_getElem? (i := 869) (by decide +kernel)⟩
theorem lw_p51 : lw_okq (⟨"PathHouse$QueryReader", "readOperand", "(Z)LPathHouse$Term;"⟩, 4) := ⟨⟨by decide +kernel, by decide +kernel⟩, List.mem_of_getElem? (i := 95) (by decide +kernel), List.mem_of_getElem? (i := 872) (by decide +kernel), List.mem_of_getElem? (i := 873) (by decide +kernel)⟩
theorem lw_p52 : lw_okq (⟨"PathHouse$QueryReader", "readWord", "()LPathHouse$Term;"⟩, 4) := ⟨⟨by decide +kernel, by decide +kernel⟩, List.mem_of_getElem? (i := 95) (by decide +kernel), List.mem_of_getElem? (i := 879) (by decide +kernel), List.mem_of_getElem? (i := 880) (by decide +kernel)⟩
theorem lw_p53 : lw_okq (⟨"PathHouse$QueryReader", "readFunction", "(I)LPathHouse$Term;"⟩, 4) := ⟨⟨by decide +kernel, by decide +kernel⟩, List.mem_of_getElem? (i := 95) (by decide +kernel), List.mem_of_getElem? (i := 883) (by decide +kernel), List.mem_of_getElem? (i := 884) (by decide +kernel)⟩
theorem lw_p54 : lw_okq (⟨"PathHouse$QueryReader", "functionNamed", "(I)I"⟩, 4) := ⟨⟨by decide +kernel, by decide +kernel⟩, List.mem_of_getElem? (i := 95) (by decide +kernel), List.mem_of_getElem? (i := 887) (by decide +kernel), List.mem_of_getElem? (i := 888) (by decide +kernel)⟩
theorem lw_p55 : lw_okq (⟨"PathHouse$Reader", "isWord", "(IILjava/lang/String;)Z"⟩, 7) := ⟨⟨by decide +kernel, by decide +kernel⟩, List.mem_of_getElem? (i := 44) (by decide +kernel), List.mem_of_getElem? (i := 892) (by decide +kernel), List.mem_of_getElem? (i := 893) (by decide +kernel)⟩
theorem lw_p56 : lw_okq (⟨"PathHouse$QueryReader", "readArgument", "()LPathHouse$Term;"⟩, 4) := ⟨⟨by decide +kernel, by decide +kernel⟩, List.mem_of_getElem? (i := 95) (by decide +kernel), List.mem_of_getElem? (i := 900) (by decide +kernel), List.mem_of_getElem? (i := 901) (by decide +kernel)⟩
theorem lw_p57 : lw_okq (⟨"PathHouse$QueryReader", "goesOnAsOr", "(LPathHouse$Term;)Z"⟩, 4) := ⟨⟨by decide +kernel, by decide +kernel⟩, List.mem_of_getElem? (i := 95) (by decide +kernel), List.mem_of_getElem? (i := 904) (by decide +kernel), List.mem_of_getElem? (i := 905) (by decide +kernel)⟩
theorem lw_p58 : lw_okq (⟨"PathHouse$Term", "isComparable", "()Z"⟩, 9) := ⟨⟨by decide +kernel, by decide +kernel⟩, List.mem_of_getElem? (i := 808) (by decide +kernel), List.mem_of_getElem? (i := 908) (by decide +kernel), List.mem_of_getElem? (i := 909) (by decide +kernel)⟩
theorem lw_p59 : lw_okq (⟨"PathHouse$Term", "isFunction", "()Z"⟩, 9) := ⟨⟨by decide +kernel, by decide +kernel⟩, List.mem_of_getElem? (i := 808) (by decide +kernel), List.mem_of_getElem? (i := 912) (by decide +kernel), List.mem_of_getElem? (i := 913) (by decide +kernel)⟩
theorem lw_p60 : lw_okq (⟨"PathHouse$QueryReader", "atOperator", "()Z"⟩, 4) := ⟨⟨by decide +kernel, by decide +kernel⟩, List.mem_of_getElem? (i := 95) (by decide +kernel), List.mem_of_getElem? (i := 916) (by decide +kernel), List.mem_of_getElem? (i := 917) (by decide +kernel)⟩
theorem lw_p61 : lw_okq (⟨"PathHouse$Term", "wants", "(LPathHouse$Term;)Z"⟩, 9) := ⟨⟨by decide +kernel, by decide +kernel⟩, List.mem_of_getElem? (i := 808) (by decide +kernel), List.mem_of_getElem? (i := 921) (by decide +kernel), List.mem_of_getElem? (i := 922) (by decide +kernel)⟩
theorem lw_p62 : lw_okq (⟨"PathHouse$QueryReader", "asTest", "(LPathHouse$Term;)LPathHouse$Term;"⟩, 4) := ⟨⟨by decide +kernel, by decide +kernel⟩, List.mem_of_getElem? (i := 95) (by decide +kernel), List.mem_of_getElem? (i := 932) (by decide +kernel), List.mem_of_getElem? (i := 933) (by decide +kernel)⟩
theorem lw_p63 : lw_okq (⟨"PathHouse$QueryReader", "readBasicFrom", "(LPathHouse$Term;)LPathHouse$Term;"⟩, 4) := ⟨⟨by decide +kernel, by decide +kernel⟩, List.mem_of_getElem? (i := 95) (by decide +kernel), List.mem_of_getElem? (i := 937) (by decide +kernel), List.mem_of_getElem? (i := 938) (by decide +kernel)⟩
def lw_privs_4 : List (MethodName × Nat) := [(⟨"PathHouse$QueryReader", "readBasic", "()LPathHouse$Term;"⟩, 4), (⟨"PathHouse$QueryReader", "readGroup", "()LPathHouse$Term;"⟩, 4), (⟨"PathHouse$QueryReader", "readNegatedTest", "()LPathHouse$Term;"⟩, 4), (⟨"PathHouse$QueryReader", "readOperand", "(Z)LPathHouse$Term;"⟩, 4), (⟨"PathHouse$QueryReader", "readWord", "()LPathHouse$Term;"⟩, 4), (⟨"PathHouse$QueryReader", "readFunction", "(I)LPathHouse$Term;"⟩, 4), (⟨"PathHouse$QueryReader", "functionNamed", "(I)I"⟩, 4), (⟨"PathHouse$Reader", "isWord", "(IILjava/lang/String;)Z"⟩, 7), (⟨"PathHouse$QueryReader", "readArgument", "()LPathHouse$Term;"⟩, 4), (⟨"PathHouse$QueryReader", "goesOnAsOr", "(LPathHouse$Term;)Z"⟩, 4), (⟨"PathHouse$Term", "isComparable", "()Z"⟩, 9), (⟨"PathHouse$Term", "isFunction", "()Z"⟩, 9), (⟨"PathHouse$QueryReader", "atOperator", "()Z"⟩, 4), (⟨"PathHouse$Term", "wants", "(LPathHouse$Term;)Z"⟩, 9), (⟨"PathHouse$QueryReader", "asTest", "(LPathHouse$Term;)LPathHouse$Term;"⟩, 4), (⟨"PathHouse$QueryReader", "readBasicFrom", "(LPathHouse$Term;)LPathHouse$Term;"⟩, 4)]
theorem lw_r4 : ∀ q ∈ lw_privs_4, lw_okq q := List.forall_mem_cons.mpr ⟨lw_p48, List.forall_mem_cons.mpr ⟨lw_p49, List.forall_mem_cons.mpr ⟨lw_p50, List.forall_mem_cons.mpr ⟨lw_p51, List.forall_mem_cons.mpr ⟨lw_p52, List.forall_mem_cons.mpr ⟨lw_p53, List.forall_mem_cons.mpr ⟨lw_p54, List.forall_mem_cons.mpr ⟨lw_p55, List.forall_mem_cons.mpr ⟨lw_p56, List.forall_mem_cons.mpr ⟨lw_p57, List.forall_mem_cons.mpr ⟨lw_p58, List.forall_mem_cons.mpr ⟨lw_p59, List.forall_mem_cons.mpr ⟨lw_p60, List.forall_mem_cons.mpr ⟨lw_p61, List.forall_mem_cons.mpr ⟨lw_p62, List.forall_mem_cons.mpr ⟨lw_p63, fun _ h => absurd h List.not_mem_nil⟩⟩⟩⟩⟩⟩⟩⟩⟩⟩⟩⟩⟩⟩⟩⟩
theorem lw_p64 : lw_okq (⟨"PathHouse$QueryReader", "readComparison", "(LPathHouse$Term;)LPathHouse$Term;"⟩, 4) := ⟨⟨by decide +kernel, by decide +kernel⟩, List.mem_of_getElem? (i := 95) (by decide +kernel), List.mem_of_getElem? (i := 941) (by decide +kernel), List.mem_of_getElem? (i := 942) (by decide +kernel)⟩
theorem lw_p65 : lw_okq (⟨"PathHouse$QueryReader", "readOperator", "()I"⟩, 4) := ⟨⟨by decide +kernel, by decide +kernel⟩, List.mem_of_getElem? (i := 95) (by decide +kernel), List.mem_of_getElem? (i := 945) (by decide +kernel), List.mem_of_getElem? (i := 946) (by decide +kernel)⟩
theorem lw_p66 : lw_okq (⟨"PathHouse$QueryReader", "takesTwice", "(I)Z"⟩, 4) := ⟨⟨by decide +kernel, by decide +kernel⟩, List.mem_of_getElem? (i := 95) (by decide +kernel), List.mem_of_getElem? (i := 949) (by decide +kernel), List.mem_of_getElem? (i := 950) (by decide +kernel)⟩
theorem lw_p67 : lw_okq (⟨"PathHouse$Term", "simplest", "()LPathHouse$Term;"⟩, 9) := ⟨⟨by decide +kernel, by decide +kernel⟩, List.mem_of_getElem? (i := 808) (by decide +kernel), List.mem_of_getElem? (i := 953) (by decide +kernel), List.mem_of_getElem? (i := 954) (by decide +kernel)⟩
theorem lw_p68 : lw_okq (⟨"PathHouse$Term", "partCount", "()I"⟩, 9) := ⟨⟨by decide +kernel, by decide +kernel⟩, List.mem_of_getElem? (i := 808) (by decide +kernel), List.mem_of_getElem? (i := 957) (by decide +kernel), List.mem_of_getElem? (i := 958) (by decide +kernel)⟩
theorem lw_p69 : lw_okq (⟨"PathHouse$Term", "part", "(I)LPathHouse$Term;"⟩, 9) := ⟨⟨by decide +kernel, by decide +kernel⟩, List.mem_of_getElem? (i := 808) (by decide +kernel), List.mem_of_getElem? (i := 962) (by decide +kernel), List.mem_of_getElem? (i := 963) (by decide +kernel)⟩
theorem lw_p70 : lw_okq (⟨"PathHouse$Selector", "isSingular", "()Z"⟩, 8) := ⟨⟨by decide +kernel, by decide +kernel⟩, List.mem_of_getElem? (i := 732) (by decide +kernel), List.mem_of_getElem? (i := 968) (by decide +kernel), List.mem_of_getElem? (i := 969) (by decide +kernel)⟩
theorem lw_p71 : lw_okq (⟨"PathHouse$QueryReader", "readDotted", "(LPathHouse$Segment;Z)Z"⟩, 4) := ⟨⟨by decide +kernel, by decide +kernel⟩, List.mem_of_getElem? (i := 95) (by decide +kernel), List.mem_of_getElem? (i := 972) (by decide +kernel), List.mem_of_getElem? (i := 973) (by decide +kernel)⟩
theorem lw_p72 : lw_okq (⟨"PathHouse$Reader", "plainName", "()[I"⟩, 7) := ⟨⟨by decide +kernel, by decide +kernel⟩, List.mem_of_getElem? (i := 44) (by decide +kernel), List.mem_of_getElem? (i := 976) (by decide +kernel), List.mem_of_getElem? (i := 977) (by decide +kernel)⟩
theorem lw_p73 : lw_okq (⟨"PathHouse$Finder", "run", "(LPathHouse$Path;LPathHouse$Node;)I"⟩, 5) := ⟨⟨by decide +kernel, by decide +kernel⟩, List.mem_of_getElem? (i := 114) (by decide +kernel), List.mem_of_getElem? (i := 995) (by decide +kernel), List.mem_of_getElem? (i := 996) (by decide +kernel)⟩
theorem lw_p74 : lw_okq (⟨"PathHouse$Finder", "select", "(LPathHouse$Path;LPathHouse$Node;I)LPathHouse$Row;"⟩, 5) := ⟨⟨by decide +kernel, by decide +kernel⟩, List.mem_of_getElem? (i := 114) (by decide +kernel), List.mem_of_getElem? (i := 1000) (by decide +kernel), List.mem_of_getElem? (i := 1001) (by decide +kernel)⟩
theorem lw_p75 : lw_okq (⟨"PathHouse$Finder", "emptyRow", "(I)LPathHouse$Row;"⟩, 5) := ⟨⟨by decide +kernel, by decide +kernel⟩, List.mem_of_getElem? (i := 114) (by decide +kernel), List.mem_of_getElem? (i := 1004) (by decide +kernel), List.mem_of_getElem? (i := 1005) (by decide +kernel)⟩
theorem lw_p76 : lw_okq (⟨"PathHouse$Finder", "stop", "(I)V"⟩, 5) := ⟨⟨by decide +kernel, by decide +kernel⟩, List.mem_of_getElem? (i := 114) (by decide +kernel), List.mem_of_getElem? (i := 1008) (by decide +kernel), List.mem_of_getElem? (i := 1009) (by decide +kernel)⟩
theorem lw_p77 : lw_okq (⟨"PathHouse$Finder", "put", "(LPathHouse$Node;LPathHouse$Row;)V"⟩, 5) := ⟨⟨by decide +kernel, by decide +kernel⟩, List.mem_of_getElem? (i := 114) (by decide +kernel), List.mem_of_getElem? (i := 1042) (by decide +kernel), List.mem_of_getElem? (i := 1043) (by decide +kernel)⟩
theorem lw_p78 : lw_okq (⟨"PathHouse$Row", "add", "(LPathHouse$Node;)Z"⟩, 2) := ⟨⟨by decide +kernel, by decide +kernel⟩, List.mem_of_getElem? (i := 1026) (by decide +kernel), List.mem_of_getElem? (i := 1046) (by decide +kernel), List.mem_of_getElem? (i := 1047) (by decide +kernel)⟩
theorem lw_p79 : lw_okq (⟨"PathHouse$Row", "get", "(I)LPathHouse$Node;"⟩, 2) := ⟨⟨by decide +kernel, by decide +kernel⟩, List.mem_of_getElem? (i := 1026) (by decide +kernel), List.mem_of_getElem? (i := 1053) (by decide +kernel), List.mem_of_getElem? (i := 1054) (by decide +kernel)⟩
def lw_privs_5 : List (MethodName × Nat) := [(⟨"PathHouse$QueryReader", "readComparison", "(LPathHouse$Term;)LPathHouse$Term;"⟩, 4), (⟨"PathHouse$QueryReader", "readOperator", "()I"⟩, 4), (⟨"PathHouse$QueryReader", "takesTwice", "(I)Z"⟩, 4), (⟨"PathHouse$Term", "simplest", "()LPathHouse$Term;"⟩, 9), (⟨"PathHouse$Term", "partCount", "()I"⟩, 9), (⟨"PathHouse$Term", "part", "(I)LPathHouse$Term;"⟩, 9), (⟨"PathHouse$Selector", "isSingular", "()Z"⟩, 8), (⟨"PathHouse$QueryReader", "readDotted", "(LPathHouse$Segment;Z)Z"⟩, 4), (⟨"PathHouse$Reader", "plainName", "()[I"⟩, 7), (⟨"PathHouse$Finder", "run", "(LPathHouse$Path;LPathHouse$Node;)I"⟩, 5), (⟨"PathHouse$Finder", "select", "(LPathHouse$Path;LPathHouse$Node;I)LPathHouse$Row;"⟩, 5), (⟨"PathHouse$Finder", "emptyRow", "(I)LPathHouse$Row;"⟩, 5), (⟨"PathHouse$Finder", "stop", "(I)V"⟩, 5), (⟨"PathHouse$Finder", "put", "(LPathHouse$Node;LPathHouse$Row;)V"⟩, 5), (⟨"PathHouse$Row", "add", "(LPathHouse$Node;)Z"⟩, 2), (⟨"PathHouse$Row", "get", "(I)LPathHouse$Node;"⟩, 2)]
theorem lw_r5 : ∀ q ∈ lw_privs_5, lw_okq q := List.forall_mem_cons.mpr ⟨lw_p64, List.forall_mem_cons.mpr ⟨lw_p65, List.forall_mem_cons.mpr ⟨lw_p66, List.forall_mem_cons.mpr ⟨lw_p67, List.forall_mem_cons.mpr ⟨lw_p68, List.forall_mem_cons.mpr ⟨lw_p69, List.forall_mem_cons.mpr ⟨lw_p70, List.forall_mem_cons.mpr ⟨lw_p71, List.forall_mem_cons.mpr ⟨lw_p72, List.forall_mem_cons.mpr ⟨lw_p73, List.forall_mem_cons.mpr ⟨lw_p74, List.forall_mem_cons.mpr ⟨lw_p75, List.forall_mem_cons.mpr ⟨lw_p76, List.forall_mem_cons.mpr ⟨lw_p77, List.forall_mem_cons.mpr ⟨lw_p78, List.forall_mem_cons.mpr ⟨lw_p79, fun _ h => absurd h List.not_mem_nil⟩⟩⟩⟩⟩⟩⟩⟩⟩⟩⟩⟩⟩⟩⟩⟩
theorem lw_p80 : lw_okq (⟨"PathHouse$Finder", "walk", "(LPathHouse$Segment;LPathHouse$Node;LPathHouse$Row;I)V"⟩, 5) := ⟨⟨by decide +kernel, by decide +kernel⟩, List.mem_of_getElem? (i := 114) (by decide +kernel), List.mem_of_getElem? (i := 1057) (by decide +kernel), List.mem_of_getElem? (i := 1058) (by decide +kernel)⟩
theorem lw_p81 : lw_okq (⟨"PathHouse$Finder", "ask", "(LPathHouse$Segment;LPathHouse$Node;LPathHouse$Row;I)V"⟩, 5) := ⟨⟨by decide +kernel, by decide +kernel⟩, List.mem_of_getElem? (i := 114) (by decide +kernel), List.mem_of_getElem? (i := 1061) (by decide +kernel), List.mem_of_getElem? (i := 1062) (by decide +kernel)⟩
theorem lw_p82 : lw_okq (⟨"PathHouse$Finder", "look", "()V"⟩, 5) := ⟨⟨by decide +kernel, by decide +kernel⟩, List.mem_of_getElem? (i := 114) (by decide +kernel), List.mem_of_getElem? (i := 1065) (by decide +kernel), List.mem_of_getElem? (i := 1066) (by decide +kernel)⟩
theorem lw_p83 : lw_okq (⟨"PathHouse$Finder", "pick", "(LPathHouse$Selector;LPathHouse$Node;LPathHouse$Row;I)V"⟩, 5) := ⟨⟨by decide +kernel, by decide +kernel⟩, List.mem_of_getElem? (i := 114) (by decide +kernel), List.mem_of_getElem? (i := 1071) (by decide +kernel), List.mem_of_getElem? (i := 1072) (by decide +kernel)⟩
theorem lw_p84 : lw_okq (⟨"PathHouse$Finder", "pickAll", "(LPathHouse$Node;LPathHouse$Row;)V"⟩, 5) := ⟨⟨by decide +kernel, by decide +kernel⟩, List.mem_of_getElem? (i := 114) (by decide +kernel), List.mem_of_getElem? (i := 1076) (by decide +kernel), List.mem_of_getElem? (i := 1077) (by decide +kernel)⟩
theorem lw_p85 : lw_okq (⟨"PathHouse$Node", "kidCount", "()I"⟩, 11) := ⟨⟨by decide +kernel, by decide +kernel⟩, List.mem_of_getElem? (i := 307) (by decide +kernel), List.mem_of_getElem? (i := 1080) (by decide +kernel), List.mem_of_getElem? (i := 1081) (by decide +kernel)⟩
theorem lw_p86 : lw_okq (⟨"PathHouse$Node", "kid", "(J)LPathHouse$Node;"⟩, 11) := ⟨⟨by decide +kernel, by decide +kernel⟩, List.mem_of_getElem? (i := 307) (by decide +kernel), List.mem_of_getElem? (i := 1084) (by decide +kernel), List.mem_of_getElem? (i := 1085) (by decide +kernel)⟩
theorem lw_p87 : lw_okq (⟨"PathHouse$Node", "element", "(J)LPathHouse$Node;"⟩, 11) := ⟨⟨by decide +kernel, by decide +kernel⟩, List.mem_of_getElem? (i := 307) (by decide +kernel), List.mem_of_getElem? (i := 1088) (by decide +kernel), List.mem_of_getElem? (i := 1089) (by decide +kernel)⟩
theorem lw_p88 : lw_okq (⟨"PathHouse$Finder", "pickSlice", "(LPathHouse$Selector;LPathHouse$Node;LPathHouse$Row;)V"⟩, 5) := ⟨⟨by decide +kernel, by decide +kernel⟩, List.mem_of_getElem? (i := 114) (by decide +kernel), List.mem_of_getElem? (i := 1094) (by decide +kernel), List.mem_of_getElem? (i := 1095) (by decide +kernel)⟩
theorem lw_p89 : lw_okq (⟨"PathHouse$Finder", "pickTrue", "(LPathHouse$Term;LPathHouse$Node;LPathHouse$Row;I)V"⟩, 5) := ⟨⟨by decide +kernel, by decide +kernel⟩, List.mem_of_getElem? (i := 114) (by decide +kernel), List.mem_of_getElem? (i := 1106) (by decide +kernel), List.mem_of_getElem? (i := 1107) (by decide +kernel)⟩
theorem lw_p90 : lw_okq (⟨"PathHouse$Finder", "holds", "(LPathHouse$Term;LPathHouse$Node;I)Z"⟩, 5) := ⟨⟨by decide +kernel, by decide +kernel⟩, List.mem_of_getElem? (i := 114) (by decide +kernel), List.mem_of_getElem? (i := 1110) (by decide +kernel), List.mem_of_getElem? (i := 1111) (by decide +kernel)⟩
theorem lw_p91 : lw_okq (⟨"PathHouse$Finder", "valueOf", "(LPathHouse$Term;LPathHouse$Node;I)LPathHouse$Node;"⟩, 5) := ⟨⟨by decide +kernel, by decide +kernel⟩, List.mem_of_getElem? (i := 114) (by decide +kernel), List.mem_of_getElem? (i := 1116) (by decide +kernel), List.mem_of_getElem? (i := 1117) (by decide +kernel)⟩
theorem lw_p92 : lw_okq (⟨"PathHouse$Finder", "onlyOf", "(LPathHouse$Term;LPathHouse$Node;I)LPathHouse$Node;"⟩, 5) := ⟨⟨by decide +kernel, by decide +kernel⟩, List.mem_of_getElem? (i := 114) (by decide +kernel), List.mem_of_getElem? (i := 1120) (by decide +kernel), List.mem_of_getElem? (i := 1121) (by decide +kernel)⟩
theorem lw_p93 : lw_okq (⟨"PathHouse$Node", "size", "()I"⟩, 11) := ⟨⟨by decide +kernel, by decide +kernel⟩, List.mem_of_getElem? (i := 307) (by decide +kernel), List.mem_of_getElem? (i := 1127) (by decide +kernel), List.mem_of_getElem? (i := 1128) (by decide +kernel)⟩
theorem lw_p94 : lw_okq (⟨"PathHouse$Finder", "countOf", "(LPathHouse$Term;LPathHouse$Node;I)I"⟩, 5) := ⟨⟨by decide +kernel, by decide +kernel⟩, List.mem_of_getElem? (i := 114) (by decide +kernel), List.mem_of_getElem? (i := 1134) (by decide +kernel), List.mem_of_getElem? (i := 1135) (by decide +kernel)⟩
theorem lw_p95 : lw_okq (⟨"PathHouse$Finder", "compares", "(ILPathHouse$Node;LPathHouse$Node;)Z"⟩, 5) := ⟨⟨by decide +kernel, by decide +kernel⟩, List.mem_of_getElem? (i := 114) (by decide +kernel), List.mem_of_getElem? (i := 1138) (by decide +kernel), List.mem_of_getElem? (i := 1139) (by decide +kernel)⟩
def lw_privs_6 : List (MethodName × Nat) := [(⟨"PathHouse$Finder", "walk", "(LPathHouse$Segment;LPathHouse$Node;LPathHouse$Row;I)V"⟩, 5), (⟨"PathHouse$Finder", "ask", "(LPathHouse$Segment;LPathHouse$Node;LPathHouse$Row;I)V"⟩, 5), (⟨"PathHouse$Finder", "look", "()V"⟩, 5), (⟨"PathHouse$Finder", "pick", "(LPathHouse$Selector;LPathHouse$Node;LPathHouse$Row;I)V"⟩, 5), (⟨"PathHouse$Finder", "pickAll", "(LPathHouse$Node;LPathHouse$Row;)V"⟩, 5), (⟨"PathHouse$Node", "kidCount", "()I"⟩, 11), (⟨"PathHouse$Node", "kid", "(J)LPathHouse$Node;"⟩, 11), (⟨"PathHouse$Node", "element", "(J)LPathHouse$Node;"⟩, 11), (⟨"PathHouse$Finder", "pickSlice", "(LPathHouse$Selector;LPathHouse$Node;LPathHouse$Row;)V"⟩, 5), (⟨"PathHouse$Finder", "pickTrue", "(LPathHouse$Term;LPathHouse$Node;LPathHouse$Row;I)V"⟩, 5), (⟨"PathHouse$Finder", "holds", "(LPathHouse$Term;LPathHouse$Node;I)Z"⟩, 5), (⟨"PathHouse$Finder", "valueOf", "(LPathHouse$Term;LPathHouse$Node;I)LPathHouse$Node;"⟩, 5), (⟨"PathHouse$Finder", "onlyOf", "(LPathHouse$Term;LPathHouse$Node;I)LPathHouse$Node;"⟩, 5), (⟨"PathHouse$Node", "size", "()I"⟩, 11), (⟨"PathHouse$Finder", "countOf", "(LPathHouse$Term;LPathHouse$Node;I)I"⟩, 5), (⟨"PathHouse$Finder", "compares", "(ILPathHouse$Node;LPathHouse$Node;)Z"⟩, 5)]
theorem lw_r6 : ∀ q ∈ lw_privs_6, lw_okq q := List.forall_mem_cons.mpr ⟨lw_p80, List.forall_mem_cons.mpr ⟨lw_p81, List.forall_mem_cons.mpr ⟨lw_p82, List.forall_mem_cons.mpr ⟨lw_p83, List.forall_mem_cons.mpr ⟨lw_p84, List.forall_mem_cons.mpr ⟨lw_p85, List.forall_mem_cons.mpr ⟨lw_p86, List.forall_mem_cons.mpr ⟨lw_p87, List.forall_mem_cons.mpr ⟨lw_p88, List.forall_mem_cons.mpr ⟨lw_p89, List.forall_mem_cons.mpr ⟨lw_p90, List.forall_mem_cons.mpr ⟨lw_p91, List.forall_mem_cons.mpr ⟨lw_p92, List.forall_mem_cons.mpr ⟨lw_p93, List.forall_mem_cons.mpr ⟨lw_p94, List.forall_mem_cons.mpr ⟨lw_p95, fun _ h => absurd h List.not_mem_nil⟩⟩⟩⟩⟩⟩⟩⟩⟩⟩⟩⟩⟩⟩⟩⟩
theorem lw_p96 : lw_okq (⟨"PathHouse$Finder", "isEqual", "(LPathHouse$Node;LPathHouse$Node;I)Z"⟩, 5) := ⟨⟨by decide +kernel, by decide +kernel⟩, List.mem_of_getElem? (i := 114) (by decide +kernel), List.mem_of_getElem? (i := 1142) (by decide +kernel), List.mem_of_getElem? (i := 1143) (by decide +kernel)⟩
theorem lw_p97 : lw_okq (⟨"PathHouse$Finder", "results", "()I"⟩, 5) := ⟨⟨by decide +kernel, by decide +kernel⟩, List.mem_of_getElem? (i := 114) (by decide +kernel), List.mem_of_getElem? (i := 1154) (by decide +kernel), List.mem_of_getElem? (i := 1155) (by decide +kernel)⟩
theorem lw_p98 : lw_okq (⟨"PathHouse$Finder", "result", "(I)LPathHouse$Node;"⟩, 5) := ⟨⟨by decide +kernel, by decide +kernel⟩, List.mem_of_getElem? (i := 114) (by decide +kernel), List.mem_of_getElem? (i := 1162) (by decide +kernel), List.mem_of_getElem? (i := 1163) (by decide +kernel)⟩
theorem lw_p99 : lw_okq (⟨"PathHouse$Out", "clear", "()V"⟩, 2) := ⟨⟨by decide +kernel, by decide +kernel⟩, List.mem_of_getElem? (i := 139) (by decide +kernel), List.mem_of_getElem? (i := 1175) (by decide +kernel), List.mem_of_getElem? (i := 1176) (by decide +kernel)⟩
theorem lw_p100 : lw_okq (⟨"PathHouse$Out", "putSteps", "(LPathHouse$Node;I)V"⟩, 2) := ⟨⟨by decide +kernel, by decide +kernel⟩, List.mem_of_getElem? (i := 139) (by decide +kernel), List.mem_of_getElem? (i := 1179) (by decide +kernel), List.mem_of_getElem? (i := 1180) (by decide +kernel)⟩
theorem lw_p101 : lw_okq (⟨"PathHouse$Out", "put", "(I)V"⟩, 2) := ⟨⟨by decide +kernel, by decide +kernel⟩, List.mem_of_getElem? (i := 139) (by decide +kernel), List.mem_of_getElem? (i := 1183) (by decide +kernel), List.mem_of_getElem? (i := 1184) (by decide +kernel)⟩
theorem lw_p102 : lw_okq (⟨"PathHouse$Out", "putQuoted", "([II)V"⟩, 2) := ⟨⟨by decide +kernel, by decide +kernel⟩, List.mem_of_getElem? (i := 139) (by decide +kernel), List.mem_of_getElem? (i := 1188) (by decide +kernel), List.mem_of_getElem? (i := 1189) (by decide +kernel)⟩
theorem lw_p103 : lw_okq (⟨"PathHouse$Out", "putControl", "(I)V"⟩, 2) := ⟨⟨by decide +kernel, by decide +kernel⟩, List.mem_of_getElem? (i := 139) (by decide +kernel), List.mem_of_getElem? (i := 1192) (by decide +kernel), List.mem_of_getElem? (i := 1193) (by decide +kernel)⟩
theorem lw_p104 : lw_okq (⟨"PathHouse$Out", "putWord", "(Ljava/lang/String;)V"⟩, 2) := ⟨⟨by decide +kernel, by decide +kernel⟩, List.mem_of_getElem? (i := 139) (by decide +kernel), List.mem_of_getElem? (i := 1197) (by decide +kernel), List.mem_of_getElem? (i := 1198) (by decide +kernel)⟩
theorem lw_p105 : lw_okq (⟨"PathHouse$Out", "putCode", "(I)V"⟩, 2) := ⟨⟨by decide +kernel, by decide +kernel⟩, List.mem_of_getElem? (i := 139) (by decide +kernel), List.mem_of_getElem? (i := 1203) (by decide +kernel), List.mem_of_getElem? (i := 1204) (by decide +kernel)⟩
theorem lw_p106 : lw_okq (⟨"PathHouse$Out", "putWhole", "(J)V"⟩, 2) := ⟨⟨by decide +kernel, by decide +kernel⟩, List.mem_of_getElem? (i := 139) (by decide +kernel), List.mem_of_getElem? (i := 1208) (by decide +kernel), List.mem_of_getElem? (i := 1209) (by decide +kernel)⟩
theorem lw_p107 : lw_okq (⟨"PathHouse$Out", "putValue", "(LPathHouse$Node;I)V"⟩, 2) := ⟨⟨by decide +kernel, by decide +kernel⟩, List.mem_of_getElem? (i := 139) (by decide +kernel), List.mem_of_getElem? (i := 1221) (by decide +kernel), List.mem_of_getElem? (i := 1222) (by decide +kernel)⟩
theorem lw_p108 : lw_okq (⟨"PathHouse$Out", "putKids", "(LPathHouse$Node;I)V"⟩, 2) := ⟨⟨by decide +kernel, by decide +kernel⟩, List.mem_of_getElem? (i := 139) (by decide +kernel), List.mem_of_getElem? (i := 1228) (by decide +kernel), List.mem_of_getElem? (i := 1229) (by decide +kernel)⟩
theorem lw_p109 : lw_okq (⟨"PathHouse$Node", "deepest", "()I"⟩, 11) := ⟨⟨by decide +kernel, by decide +kernel⟩, List.mem_of_getElem? (i := 307) (by decide +kernel), List.mem_of_getElem? (i := 1239) (by decide +kernel), List.mem_of_getElem? (i := 1240) (by decide +kernel)⟩
theorem lw_p110 : lw_okq (⟨"PathHouse$Out", "has", "(I)Z"⟩, 2) := ⟨⟨by decide +kernel, by decide +kernel⟩, List.mem_of_getElem? (i := 139) (by decide +kernel), List.mem_of_getElem? (i := 1254) (by decide +kernel), List.mem_of_getElem? (i := 1255) (by decide +kernel)⟩
theorem lw_p111 : lw_okq (⟨"PathHouse$Out", "get", "(I)I"⟩, 2) := ⟨⟨by decide +kernel, by decide +kernel⟩, List.mem_of_getElem? (i := 139) (by decide +kernel), List.mem_of_getElem? (i := 1274) (by decide +kernel), List.mem_of_getElem? (i := 1275) (by decide +kernel)⟩
def lw_privs_7 : List (MethodName × Nat) := [(⟨"PathHouse$Finder", "isEqual", "(LPathHouse$Node;LPathHouse$Node;I)Z"⟩, 5), (⟨"PathHouse$Finder", "results", "()I"⟩, 5), (⟨"PathHouse$Finder", "result", "(I)LPathHouse$Node;"⟩, 5), (⟨"PathHouse$Out", "clear", "()V"⟩, 2), (⟨"PathHouse$Out", "putSteps", "(LPathHouse$Node;I)V"⟩, 2), (⟨"PathHouse$Out", "put", "(I)V"⟩, 2), (⟨"PathHouse$Out", "putQuoted", "([II)V"⟩, 2), (⟨"PathHouse$Out", "putControl", "(I)V"⟩, 2), (⟨"PathHouse$Out", "putWord", "(Ljava/lang/String;)V"⟩, 2), (⟨"PathHouse$Out", "putCode", "(I)V"⟩, 2), (⟨"PathHouse$Out", "putWhole", "(J)V"⟩, 2), (⟨"PathHouse$Out", "putValue", "(LPathHouse$Node;I)V"⟩, 2), (⟨"PathHouse$Out", "putKids", "(LPathHouse$Node;I)V"⟩, 2), (⟨"PathHouse$Node", "deepest", "()I"⟩, 11), (⟨"PathHouse$Out", "has", "(I)Z"⟩, 2), (⟨"PathHouse$Out", "get", "(I)I"⟩, 2)]
theorem lw_r7 : ∀ q ∈ lw_privs_7, lw_okq q := List.forall_mem_cons.mpr ⟨lw_p96, List.forall_mem_cons.mpr ⟨lw_p97, List.forall_mem_cons.mpr ⟨lw_p98, List.forall_mem_cons.mpr ⟨lw_p99, List.forall_mem_cons.mpr ⟨lw_p100, List.forall_mem_cons.mpr ⟨lw_p101, List.forall_mem_cons.mpr ⟨lw_p102, List.forall_mem_cons.mpr ⟨lw_p103, List.forall_mem_cons.mpr ⟨lw_p104, List.forall_mem_cons.mpr ⟨lw_p105, List.forall_mem_cons.mpr ⟨lw_p106, List.forall_mem_cons.mpr ⟨lw_p107, List.forall_mem_cons.mpr ⟨lw_p108, List.forall_mem_cons.mpr ⟨lw_p109, List.forall_mem_cons.mpr ⟨lw_p110, List.forall_mem_cons.mpr ⟨lw_p111, fun _ h => absurd h List.not_mem_nil⟩⟩⟩⟩⟩⟩⟩⟩⟩⟩⟩⟩⟩⟩⟩⟩
theorem lw_p112 : lw_okq (⟨"PathHouseModel", "blanks", "()V"⟩, 37) := ⟨⟨by decide +kernel, by decide +kernel⟩, List.mem_of_getElem? (i := 1279) (by decide +kernel), List.mem_of_getElem? (i := 1552) (by decide +kernel), List.mem_of_getElem? (i := 1553) (by decide +kernel)⟩
theorem lw_p113 : lw_okq (⟨"PathHouseModel", "is", "(I)Z"⟩, 37) := ⟨⟨by decide +kernel, by decide +kernel⟩, List.mem_of_getElem? (i := 1279) (by decide +kernel), List.mem_of_getElem? (i := 1556) (by decide +kernel), List.mem_of_getElem? (i := 1557) (by decide +kernel)⟩
theorem lw_p114 : lw_okq (⟨"PathHouseModel", "peek", "()I"⟩, 37) := ⟨⟨by decide +kernel, by decide +kernel⟩, List.mem_of_getElem? (i := 1279) (by decide +kernel), List.mem_of_getElem? (i := 1560) (by decide +kernel), List.mem_of_getElem? (i := 1561) (by decide +kernel)⟩
theorem lw_p115 : lw_okq (⟨"PathHouseModel", "byteAt", "(I)I"⟩, 37) := ⟨⟨by decide +kernel, by decide +kernel⟩, List.mem_of_getElem? (i := 1279) (by decide +kernel), List.mem_of_getElem? (i := 1564) (by decide +kernel), List.mem_of_getElem? (i := 1565) (by decide +kernel)⟩
theorem lw_p116 : lw_okq (⟨"PathHouseModel", "value", "(II)I"⟩, 37) := ⟨⟨by decide +kernel, by decide +kernel⟩, List.mem_of_getElem? (i := 1279) (by decide +kernel), List.mem_of_getElem? (i := 1568) (by decide +kernel), List.mem_of_getElem? (i := 1569) (by decide +kernel)⟩
theorem lw_p117 : lw_okq (⟨"PathHouseModel", "bad", "()LPathHouseModel$Stop;"⟩, 37) := ⟨⟨by decide +kernel, by decide +kernel⟩, List.mem_of_getElem? (i := 1279) (by decide +kernel), List.mem_of_getElem? (i := 1578) (by decide +kernel), List.mem_of_getElem? (i := 1579) (by decide +kernel)⟩
theorem lw_p118 : lw_okq (⟨"PathHouseModel", "stop", "(II)LPathHouseModel$Stop;"⟩, 37) := ⟨⟨by decide +kernel, by decide +kernel⟩, List.mem_of_getElem? (i := 1279) (by decide +kernel), List.mem_of_getElem? (i := 1582) (by decide +kernel), List.mem_of_getElem? (i := 1583) (by decide +kernel)⟩
theorem lw_p119 : lw_okq (⟨"PathHouseModel", "word", "(Ljava/lang/String;)V"⟩, 37) := ⟨⟨by decide +kernel, by decide +kernel⟩, List.mem_of_getElem? (i := 1279) (by decide +kernel), List.mem_of_getElem? (i := 1588) (by decide +kernel), List.mem_of_getElem? (i := 1589) (by decide +kernel)⟩
theorem lw_p120 : lw_okq (⟨"PathHouseModel", "need", "(I)V"⟩, 37) := ⟨⟨by decide +kernel, by decide +kernel⟩, List.mem_of_getElem? (i := 1279) (by decide +kernel), List.mem_of_getElem? (i := 1594) (by decide +kernel), List.mem_of_getElem? (i := 1595) (by decide +kernel)⟩
theorem lw_p121 : lw_okq (⟨"PathHouseModel", "string", "()I"⟩, 37) := ⟨⟨by decide +kernel, by decide +kernel⟩, List.mem_of_getElem? (i := 1279) (by decide +kernel), List.mem_of_getElem? (i := 1600) (by decide +kernel), List.mem_of_getElem? (i := 1601) (by decide +kernel)⟩
theorem lw_p122 : lw_okq (⟨"PathHouseModel", "escaped", "(I)I"⟩, 37) := ⟨⟨by decide +kernel, by decide +kernel⟩, List.mem_of_getElem? (i := 1279) (by decide +kernel), List.mem_of_getElem? (i := 1604) (by decide +kernel), List.mem_of_getElem? (i := 1605) (by decide +kernel)⟩
theorem lw_p123 : lw_okq (⟨"PathHouseModel", "unit", "()I"⟩, 37) := ⟨⟨by decide +kernel, by decide +kernel⟩, List.mem_of_getElem? (i := 1279) (by decide +kernel), List.mem_of_getElem? (i := 1608) (by decide +kernel), List.mem_of_getElem? (i := 1609) (by decide +kernel)⟩
theorem lw_p124 : lw_okq (⟨"PathHouseModel", "hexDigit", "(II)I"⟩, 37) := ⟨⟨by decide +kernel, by decide +kernel⟩, List.mem_of_getElem? (i := 1279) (by decide +kernel), List.mem_of_getElem? (i := 1612) (by decide +kernel), List.mem_of_getElem? (i := 1613) (by decide +kernel)⟩
theorem lw_p125 : lw_okq (⟨"PathHouseModel", "keep", "(I)V"⟩, 37) := ⟨⟨by decide +kernel, by decide +kernel⟩, List.mem_of_getElem? (i := 1279) (by decide +kernel), List.mem_of_getElem? (i := 1623) (by decide +kernel), List.mem_of_getElem? (i := 1624) (by decide +kernel)⟩
theorem lw_p126 : lw_okq (⟨"PathHouseModel", "character", "()I"⟩, 37) := ⟨⟨by decide +kernel, by decide +kernel⟩, List.mem_of_getElem? (i := 1279) (by decide +kernel), List.mem_of_getElem? (i := 1627) (by decide +kernel), List.mem_of_getElem? (i := 1628) (by decide +kernel)⟩
theorem lw_p127 : lw_okq (⟨"PathHouseModel", "array", "(II)V"⟩, 37) := ⟨⟨by decide +kernel, by decide +kernel⟩, List.mem_of_getElem? (i := 1279) (by decide +kernel), List.mem_of_getElem? (i := 1633) (by decide +kernel), List.mem_of_getElem? (i := 1634) (by decide +kernel)⟩
def lw_privs_8 : List (MethodName × Nat) := [(⟨"PathHouseModel", "blanks", "()V"⟩, 37), (⟨"PathHouseModel", "is", "(I)Z"⟩, 37), (⟨"PathHouseModel", "peek", "()I"⟩, 37), (⟨"PathHouseModel", "byteAt", "(I)I"⟩, 37), (⟨"PathHouseModel", "value", "(II)I"⟩, 37), (⟨"PathHouseModel", "bad", "()LPathHouseModel$Stop;"⟩, 37), (⟨"PathHouseModel", "stop", "(II)LPathHouseModel$Stop;"⟩, 37), (⟨"PathHouseModel", "word", "(Ljava/lang/String;)V"⟩, 37), (⟨"PathHouseModel", "need", "(I)V"⟩, 37), (⟨"PathHouseModel", "string", "()I"⟩, 37), (⟨"PathHouseModel", "escaped", "(I)I"⟩, 37), (⟨"PathHouseModel", "unit", "()I"⟩, 37), (⟨"PathHouseModel", "hexDigit", "(II)I"⟩, 37), (⟨"PathHouseModel", "keep", "(I)V"⟩, 37), (⟨"PathHouseModel", "character", "()I"⟩, 37), (⟨"PathHouseModel", "array", "(II)V"⟩, 37)]
theorem lw_r8 : ∀ q ∈ lw_privs_8, lw_okq q := List.forall_mem_cons.mpr ⟨lw_p112, List.forall_mem_cons.mpr ⟨lw_p113, List.forall_mem_cons.mpr ⟨lw_p114, List.forall_mem_cons.mpr ⟨lw_p115, List.forall_mem_cons.mpr ⟨lw_p116, List.forall_mem_cons.mpr ⟨lw_p117, List.forall_mem_cons.mpr ⟨lw_p118, List.forall_mem_cons.mpr ⟨lw_p119, List.forall_mem_cons.mpr ⟨lw_p120, List.forall_mem_cons.mpr ⟨lw_p121, List.forall_mem_cons.mpr ⟨lw_p122, List.forall_mem_cons.mpr ⟨lw_p123, List.forall_mem_cons.mpr ⟨lw_p124, List.forall_mem_cons.mpr ⟨lw_p125, List.forall_mem_cons.mpr ⟨lw_p126, List.forall_mem_cons.mpr ⟨lw_p127, fun _ h => absurd h List.not_mem_nil⟩⟩⟩⟩⟩⟩⟩⟩⟩⟩⟩⟩⟩⟩⟩⟩
theorem lw_p128 : lw_okq (⟨"PathHouseModel", "hang", "(II)V"⟩, 37) := ⟨⟨by decide +kernel, by decide +kernel⟩, List.mem_of_getElem? (i := 1279) (by decide +kernel), List.mem_of_getElem? (i := 1637) (by decide +kernel), List.mem_of_getElem? (i := 1638) (by decide +kernel)⟩
theorem lw_p129 : lw_okq (⟨"PathHouseModel", "object", "(II)V"⟩, 37) := ⟨⟨by decide +kernel, by decide +kernel⟩, List.mem_of_getElem? (i := 1279) (by decide +kernel), List.mem_of_getElem? (i := 1641) (by decide +kernel), List.mem_of_getElem? (i := 1642) (by decide +kernel)⟩
theorem lw_p130 : lw_okq (⟨"PathHouseModel", "areSame", "(IIII)Z"⟩, 37) := ⟨⟨by decide +kernel, by decide +kernel⟩, List.mem_of_getElem? (i := 1279) (by decide +kernel), List.mem_of_getElem? (i := 1645) (by decide +kernel), List.mem_of_getElem? (i := 1646) (by decide +kernel)⟩
theorem lw_p131 : lw_okq (⟨"PathHouseModel", "integer", "(Z)V"⟩, 37) := ⟨⟨by decide +kernel, by decide +kernel⟩, List.mem_of_getElem? (i := 1279) (by decide +kernel), List.mem_of_getElem? (i := 1649) (by decide +kernel), List.mem_of_getElem? (i := 1650) (by decide +kernel)⟩
theorem lw_p132 : lw_okq (⟨"PathHouseModel", "told", "(II)I"⟩, 37) := ⟨⟨by decide +kernel, by decide +kernel⟩, List.mem_of_getElem? (i := 1279) (by decide +kernel), List.mem_of_getElem? (i := 1656) (by decide +kernel), List.mem_of_getElem? (i := 1657) (by decide +kernel)⟩
theorem lw_p133 : lw_okq (⟨"PathHouseModel", "segments", "(ZZ)I"⟩, 37) := ⟨⟨by decide +kernel, by decide +kernel⟩, List.mem_of_getElem? (i := 1279) (by decide +kernel), List.mem_of_getElem? (i := 1668) (by decide +kernel), List.mem_of_getElem? (i := 1669) (by decide +kernel)⟩
theorem lw_p134 : lw_okq (⟨"PathHouseModel", "part", "(I)I"⟩, 37) := ⟨⟨by decide +kernel, by decide +kernel⟩, List.mem_of_getElem? (i := 1279) (by decide +kernel), List.mem_of_getElem? (i := 1672) (by decide +kernel), List.mem_of_getElem? (i := 1673) (by decide +kernel)⟩
theorem lw_p135 : lw_okq (⟨"PathHouseModel", "bracketed", "(Z)I"⟩, 37) := ⟨⟨by decide +kernel, by decide +kernel⟩, List.mem_of_getElem? (i := 1279) (by decide +kernel), List.mem_of_getElem? (i := 1676) (by decide +kernel), List.mem_of_getElem? (i := 1677) (by decide +kernel)⟩
theorem lw_p136 : lw_okq (⟨"PathHouseModel", "selector", "(Z)I"⟩, 37) := ⟨⟨by decide +kernel, by decide +kernel⟩, List.mem_of_getElem? (i := 1279) (by decide +kernel), List.mem_of_getElem? (i := 1680) (by decide +kernel), List.mem_of_getElem? (i := 1681) (by decide +kernel)⟩
theorem lw_p137 : lw_okq (⟨"PathHouseModel", "name", "(I)I"⟩, 37) := ⟨⟨by decide +kernel, by decide +kernel⟩, List.mem_of_getElem? (i := 1279) (by decide +kernel), List.mem_of_getElem? (i := 1684) (by decide +kernel), List.mem_of_getElem? (i := 1685) (by decide +kernel)⟩
theorem lw_p138 : lw_okq (⟨"PathHouseModel", "isInteger", "()Z"⟩, 37) := ⟨⟨by decide +kernel, by decide +kernel⟩, List.mem_of_getElem? (i := 1279) (by decide +kernel), List.mem_of_getElem? (i := 1688) (by decide +kernel), List.mem_of_getElem? (i := 1689) (by decide +kernel)⟩
theorem lw_p139 : lw_okq (⟨"PathHouseModel", "selected", "()J"⟩, 37) := ⟨⟨by decide +kernel, by decide +kernel⟩, List.mem_of_getElem? (i := 1279) (by decide +kernel), List.mem_of_getElem? (i := 1692) (by decide +kernel), List.mem_of_getElem? (i := 1693) (by decide +kernel)⟩
theorem lw_p140 : lw_okq (⟨"PathHouseModel", "late", "(II)V"⟩, 37) := ⟨⟨by decide +kernel, by decide +kernel⟩, List.mem_of_getElem? (i := 1279) (by decide +kernel), List.mem_of_getElem? (i := 1696) (by decide +kernel), List.mem_of_getElem? (i := 1697) (by decide +kernel)⟩
theorem lw_p141 : lw_okq (⟨"PathHouseModel", "slice", "(I)I"⟩, 37) := ⟨⟨by decide +kernel, by decide +kernel⟩, List.mem_of_getElem? (i := 1279) (by decide +kernel), List.mem_of_getElem? (i := 1700) (by decide +kernel), List.mem_of_getElem? (i := 1701) (by decide +kernel)⟩
theorem lw_p142 : lw_okq (⟨"PathHouseModel", "opens", "()V"⟩, 37) := ⟨⟨by decide +kernel, by decide +kernel⟩, List.mem_of_getElem? (i := 1279) (by decide +kernel), List.mem_of_getElem? (i := 1704) (by decide +kernel), List.mem_of_getElem? (i := 1705) (by decide +kernel)⟩
theorem lw_p143 : lw_okq (⟨"PathHouseModel", "any", "(I)I"⟩, 37) := ⟨⟨by decide +kernel, by decide +kernel⟩, List.mem_of_getElem? (i := 1279) (by decide +kernel), List.mem_of_getElem? (i := 1708) (by decide +kernel), List.mem_of_getElem? (i := 1709) (by decide +kernel)⟩
def lw_privs_9 : List (MethodName × Nat) := [(⟨"PathHouseModel", "hang", "(II)V"⟩, 37), (⟨"PathHouseModel", "object", "(II)V"⟩, 37), (⟨"PathHouseModel", "areSame", "(IIII)Z"⟩, 37), (⟨"PathHouseModel", "integer", "(Z)V"⟩, 37), (⟨"PathHouseModel", "told", "(II)I"⟩, 37), (⟨"PathHouseModel", "segments", "(ZZ)I"⟩, 37), (⟨"PathHouseModel", "part", "(I)I"⟩, 37), (⟨"PathHouseModel", "bracketed", "(Z)I"⟩, 37), (⟨"PathHouseModel", "selector", "(Z)I"⟩, 37), (⟨"PathHouseModel", "name", "(I)I"⟩, 37), (⟨"PathHouseModel", "isInteger", "()Z"⟩, 37), (⟨"PathHouseModel", "selected", "()J"⟩, 37), (⟨"PathHouseModel", "late", "(II)V"⟩, 37), (⟨"PathHouseModel", "slice", "(I)I"⟩, 37), (⟨"PathHouseModel", "opens", "()V"⟩, 37), (⟨"PathHouseModel", "any", "(I)I"⟩, 37)]
theorem lw_r9 : ∀ q ∈ lw_privs_9, lw_okq q := List.forall_mem_cons.mpr ⟨lw_p128, List.forall_mem_cons.mpr ⟨lw_p129, List.forall_mem_cons.mpr ⟨lw_p130, List.forall_mem_cons.mpr ⟨lw_p131, List.forall_mem_cons.mpr ⟨lw_p132, List.forall_mem_cons.mpr ⟨lw_p133, List.forall_mem_cons.mpr ⟨lw_p134, List.forall_mem_cons.mpr ⟨lw_p135, List.forall_mem_cons.mpr ⟨lw_p136, List.forall_mem_cons.mpr ⟨lw_p137, List.forall_mem_cons.mpr ⟨lw_p138, List.forall_mem_cons.mpr ⟨lw_p139, List.forall_mem_cons.mpr ⟨lw_p140, List.forall_mem_cons.mpr ⟨lw_p141, List.forall_mem_cons.mpr ⟨lw_p142, List.forall_mem_cons.mpr ⟨lw_p143, fun _ h => absurd h List.not_mem_nil⟩⟩⟩⟩⟩⟩⟩⟩⟩⟩⟩⟩⟩⟩⟩⟩
theorem lw_p144 : lw_okq (⟨"PathHouseModel", "all", "(I)I"⟩, 37) := ⟨⟨by decide +kernel, by decide +kernel⟩, List.mem_of_getElem? (i := 1279) (by decide +kernel), List.mem_of_getElem? (i := 1712) (by decide +kernel), List.mem_of_getElem? (i := 1713) (by decide +kernel)⟩
theorem lw_p145 : lw_okq (⟨"PathHouseModel", "basic", "()I"⟩, 37) := ⟨⟨by decide +kernel, by decide +kernel⟩, List.mem_of_getElem? (i := 1279) (by decide +kernel), List.mem_of_getElem? (i := 1716) (by decide +kernel), List.mem_of_getElem? (i := 1717) (by decide +kernel)⟩
theorem lw_p146 : lw_okq (⟨"PathHouseModel", "bracket", "()I"⟩, 37) := ⟨⟨by decide +kernel, by decide +kernel⟩, List.mem_of_getElem? (i := 1279) (by decide +kernel), List.mem_of_getElem? (i := 1720) (by decide +kernel), List.mem_of_getElem? (i := 1721) (by decide +kernel)⟩
theorem lw_p147 : lw_okq (⟨"PathHouseModel", "isPath", "()Z"⟩, 37) := ⟨⟨by decide +kernel, by decide +kernel⟩, List.mem_of_getElem? (i := 1279) (by decide +kernel), List.mem_of_getElem? (i := 1724) (by decide +kernel), List.mem_of_getElem? (i := 1725) (by decide +kernel)⟩
theorem lw_p148 : lw_okq (⟨"PathHouseModel", "path", "(Z)I"⟩, 37) := ⟨⟨by decide +kernel, by decide +kernel⟩, List.mem_of_getElem? (i := 1279) (by decide +kernel), List.mem_of_getElem? (i := 1728) (by decide +kernel), List.mem_of_getElem? (i := 1729) (by decide +kernel)⟩
theorem lw_p149 : lw_okq (⟨"PathHouseModel", "tested", "(II)I"⟩, 37) := ⟨⟨by decide +kernel, by decide +kernel⟩, List.mem_of_getElem? (i := 1279) (by decide +kernel), List.mem_of_getElem? (i := 1732) (by decide +kernel), List.mem_of_getElem? (i := 1733) (by decide +kernel)⟩
theorem lw_p150 : lw_okq (⟨"PathHouseModel", "negated", "(I)I"⟩, 37) := ⟨⟨by decide +kernel, by decide +kernel⟩, List.mem_of_getElem? (i := 1279) (by decide +kernel), List.mem_of_getElem? (i := 1739) (by decide +kernel), List.mem_of_getElem? (i := 1740) (by decide +kernel)⟩
theorem lw_p151 : lw_okq (⟨"PathHouseModel", "function", "(I)I"⟩, 37) := ⟨⟨by decide +kernel, by decide +kernel⟩, List.mem_of_getElem? (i := 1279) (by decide +kernel), List.mem_of_getElem? (i := 1743) (by decide +kernel), List.mem_of_getElem? (i := 1744) (by decide +kernel)⟩
theorem lw_p152 : lw_okq (⟨"PathHouseModel", "isWord", "(ILjava/lang/String;)Z"⟩, 37) := ⟨⟨by decide +kernel, by decide +kernel⟩, List.mem_of_getElem? (i := 1279) (by decide +kernel), List.mem_of_getElem? (i := 1748) (by decide +kernel), List.mem_of_getElem? (i := 1749) (by decide +kernel)⟩
theorem lw_p153 : lw_okq (⟨"PathHouseModel", "argument", "()I"⟩, 37) := ⟨⟨by decide +kernel, by decide +kernel⟩, List.mem_of_getElem? (i := 1279) (by decide +kernel), List.mem_of_getElem? (i := 1754) (by decide +kernel), List.mem_of_getElem? (i := 1755) (by decide +kernel)⟩
theorem lw_p154 : lw_okq (⟨"PathHouseModel", "operand", "()I"⟩, 37) := ⟨⟨by decide +kernel, by decide +kernel⟩, List.mem_of_getElem? (i := 1279) (by decide +kernel), List.mem_of_getElem? (i := 1758) (by decide +kernel), List.mem_of_getElem? (i := 1759) (by decide +kernel)⟩
theorem lw_p155 : lw_okq (⟨"PathHouseModel", "isLiteral", "()Z"⟩, 37) := ⟨⟨by decide +kernel, by decide +kernel⟩, List.mem_of_getElem? (i := 1279) (by decide +kernel), List.mem_of_getElem? (i := 1762) (by decide +kernel), List.mem_of_getElem? (i := 1763) (by decide +kernel)⟩
theorem lw_p156 : lw_okq (⟨"PathHouseModel", "literal", "()I"⟩, 37) := ⟨⟨by decide +kernel, by decide +kernel⟩, List.mem_of_getElem? (i := 1279) (by decide +kernel), List.mem_of_getElem? (i := 1766) (by decide +kernel), List.mem_of_getElem? (i := 1767) (by decide +kernel)⟩
theorem lw_p157 : lw_okq (⟨"PathHouseModel", "worded", "()I"⟩, 37) := ⟨⟨by decide +kernel, by decide +kernel⟩, List.mem_of_getElem? (i := 1279) (by decide +kernel), List.mem_of_getElem? (i := 1770) (by decide +kernel), List.mem_of_getElem? (i := 1771) (by decide +kernel)⟩
theorem lw_p158 : lw_okq (⟨"PathHouseModel", "isOrdered", "()Z"⟩, 37) := ⟨⟨by decide +kernel, by decide +kernel⟩, List.mem_of_getElem? (i := 1279) (by decide +kernel), List.mem_of_getElem? (i := 1774) (by decide +kernel), List.mem_of_getElem? (i := 1775) (by decide +kernel)⟩
theorem lw_p159 : lw_okq (⟨"PathHouseModel", "compared", "(I)I"⟩, 37) := ⟨⟨by decide +kernel, by decide +kernel⟩, List.mem_of_getElem? (i := 1279) (by decide +kernel), List.mem_of_getElem? (i := 1778) (by decide +kernel), List.mem_of_getElem? (i := 1779) (by decide +kernel)⟩
def lw_privs_10 : List (MethodName × Nat) := [(⟨"PathHouseModel", "all", "(I)I"⟩, 37), (⟨"PathHouseModel", "basic", "()I"⟩, 37), (⟨"PathHouseModel", "bracket", "()I"⟩, 37), (⟨"PathHouseModel", "isPath", "()Z"⟩, 37), (⟨"PathHouseModel", "path", "(Z)I"⟩, 37), (⟨"PathHouseModel", "tested", "(II)I"⟩, 37), (⟨"PathHouseModel", "negated", "(I)I"⟩, 37), (⟨"PathHouseModel", "function", "(I)I"⟩, 37), (⟨"PathHouseModel", "isWord", "(ILjava/lang/String;)Z"⟩, 37), (⟨"PathHouseModel", "argument", "()I"⟩, 37), (⟨"PathHouseModel", "operand", "()I"⟩, 37), (⟨"PathHouseModel", "isLiteral", "()Z"⟩, 37), (⟨"PathHouseModel", "literal", "()I"⟩, 37), (⟨"PathHouseModel", "worded", "()I"⟩, 37), (⟨"PathHouseModel", "isOrdered", "()Z"⟩, 37), (⟨"PathHouseModel", "compared", "(I)I"⟩, 37)]
theorem lw_r10 : ∀ q ∈ lw_privs_10, lw_okq q := List.forall_mem_cons.mpr ⟨lw_p144, List.forall_mem_cons.mpr ⟨lw_p145, List.forall_mem_cons.mpr ⟨lw_p146, List.forall_mem_cons.mpr ⟨lw_p147, List.forall_mem_cons.mpr ⟨lw_p148, List.forall_mem_cons.mpr ⟨lw_p149, List.forall_mem_cons.mpr ⟨lw_p150, List.forall_mem_cons.mpr ⟨lw_p151, List.forall_mem_cons.mpr ⟨lw_p152, List.forall_mem_cons.mpr ⟨lw_p153, List.forall_mem_cons.mpr ⟨lw_p154, List.forall_mem_cons.mpr ⟨lw_p155, List.forall_mem_cons.mpr ⟨lw_p156, List.forall_mem_cons.mpr ⟨lw_p157, List.forall_mem_cons.mpr ⟨lw_p158, List.forall_mem_cons.mpr ⟨lw_p159, fun _ h => absurd h List.not_mem_nil⟩⟩⟩⟩⟩⟩⟩⟩⟩⟩⟩⟩⟩⟩⟩⟩
theorem lw_p160 : lw_okq (⟨"PathHouseModel", "sign", "()I"⟩, 37) := ⟨⟨by decide +kernel, by decide +kernel⟩, List.mem_of_getElem? (i := 1279) (by decide +kernel), List.mem_of_getElem? (i := 1782) (by decide +kernel), List.mem_of_getElem? (i := 1783) (by decide +kernel)⟩
theorem lw_p161 : lw_okq (⟨"PathHouseModel", "comparable", "()I"⟩, 37) := ⟨⟨by decide +kernel, by decide +kernel⟩, List.mem_of_getElem? (i := 1279) (by decide +kernel), List.mem_of_getElem? (i := 1786) (by decide +kernel), List.mem_of_getElem? (i := 1787) (by decide +kernel)⟩
theorem lw_p162 : lw_okq (⟨"PathHouseModel", "basicOf", "(II)I"⟩, 37) := ⟨⟨by decide +kernel, by decide +kernel⟩, List.mem_of_getElem? (i := 1279) (by decide +kernel), List.mem_of_getElem? (i := 1790) (by decide +kernel), List.mem_of_getElem? (i := 1791) (by decide +kernel)⟩
theorem lw_p163 : lw_okq (⟨"PathHouseModel", "member", "()I"⟩, 37) := ⟨⟨by decide +kernel, by decide +kernel⟩, List.mem_of_getElem? (i := 1279) (by decide +kernel), List.mem_of_getElem? (i := 1794) (by decide +kernel), List.mem_of_getElem? (i := 1795) (by decide +kernel)⟩
theorem lw_p164 : lw_okq (⟨"PathHouseModel", "isLetter", "(I)Z"⟩, 37) := ⟨⟨by decide +kernel, by decide +kernel⟩, List.mem_of_getElem? (i := 1279) (by decide +kernel), List.mem_of_getElem? (i := 1798) (by decide +kernel), List.mem_of_getElem? (i := 1799) (by decide +kernel)⟩
theorem lw_p165 : lw_okq (⟨"PathHouseModel", "nodes", "(III)I"⟩, 37) := ⟨⟨by decide +kernel, by decide +kernel⟩, List.mem_of_getElem? (i := 1279) (by decide +kernel), List.mem_of_getElem? (i := 1806) (by decide +kernel), List.mem_of_getElem? (i := 1807) (by decide +kernel)⟩
theorem lw_p166 : lw_okq (⟨"PathHouseModel", "down", "(III)V"⟩, 37) := ⟨⟨by decide +kernel, by decide +kernel⟩, List.mem_of_getElem? (i := 1279) (by decide +kernel), List.mem_of_getElem? (i := 1810) (by decide +kernel), List.mem_of_getElem? (i := 1811) (by decide +kernel)⟩
theorem lw_p167 : lw_okq (⟨"PathHouseModel", "look", "()V"⟩, 37) := ⟨⟨by decide +kernel, by decide +kernel⟩, List.mem_of_getElem? (i := 1279) (by decide +kernel), List.mem_of_getElem? (i := 1814) (by decide +kernel), List.mem_of_getElem? (i := 1815) (by decide +kernel)⟩
theorem lw_p168 : lw_okq (⟨"PathHouseModel", "asked", "(III)V"⟩, 37) := ⟨⟨by decide +kernel, by decide +kernel⟩, List.mem_of_getElem? (i := 1279) (by decide +kernel), List.mem_of_getElem? (i := 1819) (by decide +kernel), List.mem_of_getElem? (i := 1820) (by decide +kernel)⟩
theorem lw_p169 : lw_okq (⟨"PathHouseModel", "named", "(III)I"⟩, 37) := ⟨⟨by decide +kernel, by decide +kernel⟩, List.mem_of_getElem? (i := 1279) (by decide +kernel), List.mem_of_getElem? (i := 1823) (by decide +kernel), List.mem_of_getElem? (i := 1824) (by decide +kernel)⟩
theorem lw_p170 : lw_okq (⟨"PathHouseModel", "comes", "(I)V"⟩, 37) := ⟨⟨by decide +kernel, by decide +kernel⟩, List.mem_of_getElem? (i := 1279) (by decide +kernel), List.mem_of_getElem? (i := 1827) (by decide +kernel), List.mem_of_getElem? (i := 1828) (by decide +kernel)⟩
theorem lw_p171 : lw_okq (⟨"PathHouseModel", "element", "(II)I"⟩, 37) := ⟨⟨by decide +kernel, by decide +kernel⟩, List.mem_of_getElem? (i := 1279) (by decide +kernel), List.mem_of_getElem? (i := 1831) (by decide +kernel), List.mem_of_getElem? (i := 1832) (by decide +kernel)⟩
theorem lw_p172 : lw_okq (⟨"PathHouseModel", "sliced", "(II)V"⟩, 37) := ⟨⟨by decide +kernel, by decide +kernel⟩, List.mem_of_getElem? (i := 1279) (by decide +kernel), List.mem_of_getElem? (i := 1835) (by decide +kernel), List.mem_of_getElem? (i := 1836) (by decide +kernel)⟩
theorem lw_p173 : lw_okq (⟨"PathHouseModel", "filtered", "(III)V"⟩, 37) := ⟨⟨by decide +kernel, by decide +kernel⟩, List.mem_of_getElem? (i := 1279) (by decide +kernel), List.mem_of_getElem? (i := 1843) (by decide +kernel), List.mem_of_getElem? (i := 1844) (by decide +kernel)⟩
theorem lw_p174 : lw_okq (⟨"PathHouseModel", "isTrue", "(III)Z"⟩, 37) := ⟨⟨by decide +kernel, by decide +kernel⟩, List.mem_of_getElem? (i := 1279) (by decide +kernel), List.mem_of_getElem? (i := 1847) (by decide +kernel), List.mem_of_getElem? (i := 1848) (by decide +kernel)⟩
theorem lw_p175 : lw_okq (⟨"PathHouseModel", "pathOf", "(III)I"⟩, 37) := ⟨⟨by decide +kernel, by decide +kernel⟩, List.mem_of_getElem? (i := 1279) (by decide +kernel), List.mem_of_getElem? (i := 1851) (by decide +kernel), List.mem_of_getElem? (i := 1852) (by decide +kernel)⟩
def lw_privs_11 : List (MethodName × Nat) := [(⟨"PathHouseModel", "sign", "()I"⟩, 37), (⟨"PathHouseModel", "comparable", "()I"⟩, 37), (⟨"PathHouseModel", "basicOf", "(II)I"⟩, 37), (⟨"PathHouseModel", "member", "()I"⟩, 37), (⟨"PathHouseModel", "isLetter", "(I)Z"⟩, 37), (⟨"PathHouseModel", "nodes", "(III)I"⟩, 37), (⟨"PathHouseModel", "down", "(III)V"⟩, 37), (⟨"PathHouseModel", "look", "()V"⟩, 37), (⟨"PathHouseModel", "asked", "(III)V"⟩, 37), (⟨"PathHouseModel", "named", "(III)I"⟩, 37), (⟨"PathHouseModel", "comes", "(I)V"⟩, 37), (⟨"PathHouseModel", "element", "(II)I"⟩, 37), (⟨"PathHouseModel", "sliced", "(II)V"⟩, 37), (⟨"PathHouseModel", "filtered", "(III)V"⟩, 37), (⟨"PathHouseModel", "isTrue", "(III)Z"⟩, 37), (⟨"PathHouseModel", "pathOf", "(III)I"⟩, 37)]
theorem lw_r11 : ∀ q ∈ lw_privs_11, lw_okq q := List.forall_mem_cons.mpr ⟨lw_p160, List.forall_mem_cons.mpr ⟨lw_p161, List.forall_mem_cons.mpr ⟨lw_p162, List.forall_mem_cons.mpr ⟨lw_p163, List.forall_mem_cons.mpr ⟨lw_p164, List.forall_mem_cons.mpr ⟨lw_p165, List.forall_mem_cons.mpr ⟨lw_p166, List.forall_mem_cons.mpr ⟨lw_p167, List.forall_mem_cons.mpr ⟨lw_p168, List.forall_mem_cons.mpr ⟨lw_p169, List.forall_mem_cons.mpr ⟨lw_p170, List.forall_mem_cons.mpr ⟨lw_p171, List.forall_mem_cons.mpr ⟨lw_p172, List.forall_mem_cons.mpr ⟨lw_p173, List.forall_mem_cons.mpr ⟨lw_p174, List.forall_mem_cons.mpr ⟨lw_p175, fun _ h => absurd h List.not_mem_nil⟩⟩⟩⟩⟩⟩⟩⟩⟩⟩⟩⟩⟩⟩⟩⟩
theorem lw_p176 : lw_okq (⟨"PathHouseModel", "compares", "(III)Z"⟩, 37) := ⟨⟨by decide +kernel, by decide +kernel⟩, List.mem_of_getElem? (i := 1279) (by decide +kernel), List.mem_of_getElem? (i := 1855) (by decide +kernel), List.mem_of_getElem? (i := 1856) (by decide +kernel)⟩
theorem lw_p177 : lw_okq (⟨"PathHouseModel", "comesTo", "(III)V"⟩, 37) := ⟨⟨by decide +kernel, by decide +kernel⟩, List.mem_of_getElem? (i := 1279) (by decide +kernel), List.mem_of_getElem? (i := 1859) (by decide +kernel), List.mem_of_getElem? (i := 1860) (by decide +kernel)⟩
theorem lw_p178 : lw_okq (⟨"PathHouseModel", "ofNumber", "(J)V"⟩, 37) := ⟨⟨by decide +kernel, by decide +kernel⟩, List.mem_of_getElem? (i := 1279) (by decide +kernel), List.mem_of_getElem? (i := 1863) (by decide +kernel), List.mem_of_getElem? (i := 1864) (by decide +kernel)⟩
theorem lw_p179 : lw_okq (⟨"PathHouseModel", "ofValue", "(I)V"⟩, 37) := ⟨⟨by decide +kernel, by decide +kernel⟩, List.mem_of_getElem? (i := 1279) (by decide +kernel), List.mem_of_getElem? (i := 1867) (by decide +kernel), List.mem_of_getElem? (i := 1868) (by decide +kernel)⟩
theorem lw_p180 : lw_okq (⟨"PathHouseModel", "alike", "(IJIIIIJIII)Z"⟩, 37) := ⟨⟨by decide +kernel, by decide +kernel⟩, List.mem_of_getElem? (i := 1279) (by decide +kernel), List.mem_of_getElem? (i := 1871) (by decide +kernel), List.mem_of_getElem? (i := 1872) (by decide +kernel)⟩
theorem lw_p181 : lw_okq (⟨"PathHouseModel", "areAlike", "(II)Z"⟩, 37) := ⟨⟨by decide +kernel, by decide +kernel⟩, List.mem_of_getElem? (i := 1279) (by decide +kernel), List.mem_of_getElem? (i := 1875) (by decide +kernel), List.mem_of_getElem? (i := 1876) (by decide +kernel)⟩
theorem lw_p182 : lw_okq (⟨"PathHouseModel", "areSameValues", "(II)Z"⟩, 37) := ⟨⟨by decide +kernel, by decide +kernel⟩, List.mem_of_getElem? (i := 1279) (by decide +kernel), List.mem_of_getElem? (i := 1879) (by decide +kernel), List.mem_of_getElem? (i := 1880) (by decide +kernel)⟩
theorem lw_p183 : lw_okq (⟨"PathHouseModel", "isLess", "(IJIIIJII)Z"⟩, 37) := ⟨⟨by decide +kernel, by decide +kernel⟩, List.mem_of_getElem? (i := 1279) (by decide +kernel), List.mem_of_getElem? (i := 1883) (by decide +kernel), List.mem_of_getElem? (i := 1884) (by decide +kernel)⟩
theorem lw_p184 : lw_okq (⟨"PathHouseModel", "isFound", "(I)Z"⟩, 37) := ⟨⟨by decide +kernel, by decide +kernel⟩, List.mem_of_getElem? (i := 1279) (by decide +kernel), List.mem_of_getElem? (i := 1891) (by decide +kernel), List.mem_of_getElem? (i := 1892) (by decide +kernel)⟩
theorem lw_p185 : lw_okq (⟨"PathHouseModel", "steps", "(I)I"⟩, 37) := ⟨⟨by decide +kernel, by decide +kernel⟩, List.mem_of_getElem? (i := 1279) (by decide +kernel), List.mem_of_getElem? (i := 1895) (by decide +kernel), List.mem_of_getElem? (i := 1896) (by decide +kernel)⟩
theorem lw_p186 : lw_okq (⟨"PathHouseModel", "put", "(I)V"⟩, 37) := ⟨⟨by decide +kernel, by decide +kernel⟩, List.mem_of_getElem? (i := 1279) (by decide +kernel), List.mem_of_getElem? (i := 1907) (by decide +kernel), List.mem_of_getElem? (i := 1908) (by decide +kernel)⟩
theorem lw_p187 : lw_okq (⟨"PathHouseModel", "sayNumber", "(J)V"⟩, 37) := ⟨⟨by decide +kernel, by decide +kernel⟩, List.mem_of_getElem? (i := 1279) (by decide +kernel), List.mem_of_getElem? (i := 1911) (by decide +kernel), List.mem_of_getElem? (i := 1912) (by decide +kernel)⟩
theorem lw_p188 : lw_okq (⟨"PathHouseModel", "sayText", "(III)V"⟩, 37) := ⟨⟨by decide +kernel, by decide +kernel⟩, List.mem_of_getElem? (i := 1279) (by decide +kernel), List.mem_of_getElem? (i := 1916) (by decide +kernel), List.mem_of_getElem? (i := 1917) (by decide +kernel)⟩
theorem lw_p189 : lw_okq (⟨"PathHouseModel", "sayCharacter", "(II)V"⟩, 37) := ⟨⟨by decide +kernel, by decide +kernel⟩, List.mem_of_getElem? (i := 1279) (by decide +kernel), List.mem_of_getElem? (i := 1920) (by decide +kernel), List.mem_of_getElem? (i := 1921) (by decide +kernel)⟩
theorem lw_p190 : lw_okq (⟨"PathHouseModel", "sayValue", "(I)V"⟩, 37) := ⟨⟨by decide +kernel, by decide +kernel⟩, List.mem_of_getElem? (i := 1279) (by decide +kernel), List.mem_of_getElem? (i := 1928) (by decide +kernel), List.mem_of_getElem? (i := 1929) (by decide +kernel)⟩
theorem lw_p191 : lw_okq (⟨"PathHouseModel", "say", "(Ljava/lang/String;)V"⟩, 37) := ⟨⟨by decide +kernel, by decide +kernel⟩, List.mem_of_getElem? (i := 1279) (by decide +kernel), List.mem_of_getElem? (i := 1932) (by decide +kernel), List.mem_of_getElem? (i := 1933) (by decide +kernel)⟩
def lw_privs_12 : List (MethodName × Nat) := [(⟨"PathHouseModel", "compares", "(III)Z"⟩, 37), (⟨"PathHouseModel", "comesTo", "(III)V"⟩, 37), (⟨"PathHouseModel", "ofNumber", "(J)V"⟩, 37), (⟨"PathHouseModel", "ofValue", "(I)V"⟩, 37), (⟨"PathHouseModel", "alike", "(IJIIIIJIII)Z"⟩, 37), (⟨"PathHouseModel", "areAlike", "(II)Z"⟩, 37), (⟨"PathHouseModel", "areSameValues", "(II)Z"⟩, 37), (⟨"PathHouseModel", "isLess", "(IJIIIJII)Z"⟩, 37), (⟨"PathHouseModel", "isFound", "(I)Z"⟩, 37), (⟨"PathHouseModel", "steps", "(I)I"⟩, 37), (⟨"PathHouseModel", "put", "(I)V"⟩, 37), (⟨"PathHouseModel", "sayNumber", "(J)V"⟩, 37), (⟨"PathHouseModel", "sayText", "(III)V"⟩, 37), (⟨"PathHouseModel", "sayCharacter", "(II)V"⟩, 37), (⟨"PathHouseModel", "sayValue", "(I)V"⟩, 37), (⟨"PathHouseModel", "say", "(Ljava/lang/String;)V"⟩, 37)]
theorem lw_r12 : ∀ q ∈ lw_privs_12, lw_okq q := List.forall_mem_cons.mpr ⟨lw_p176, List.forall_mem_cons.mpr ⟨lw_p177, List.forall_mem_cons.mpr ⟨lw_p178, List.forall_mem_cons.mpr ⟨lw_p179, List.forall_mem_cons.mpr ⟨lw_p180, List.forall_mem_cons.mpr ⟨lw_p181, List.forall_mem_cons.mpr ⟨lw_p182, List.forall_mem_cons.mpr ⟨lw_p183, List.forall_mem_cons.mpr ⟨lw_p184, List.forall_mem_cons.mpr ⟨lw_p185, List.forall_mem_cons.mpr ⟨lw_p186, List.forall_mem_cons.mpr ⟨lw_p187, List.forall_mem_cons.mpr ⟨lw_p188, List.forall_mem_cons.mpr ⟨lw_p189, List.forall_mem_cons.mpr ⟨lw_p190, List.forall_mem_cons.mpr ⟨lw_p191, fun _ h => absurd h List.not_mem_nil⟩⟩⟩⟩⟩⟩⟩⟩⟩⟩⟩⟩⟩⟩⟩⟩
def lw_privs : List (MethodName × Nat) := lw_privs_1 ++ (lw_privs_2 ++ (lw_privs_3 ++ (lw_privs_4 ++ (lw_privs_5 ++ (lw_privs_6 ++ (lw_privs_7 ++ (lw_privs_8 ++ (lw_privs_9 ++ (lw_privs_10 ++ (lw_privs_11 ++ (lw_privs_12)))))))))))
def lw_tbl : List Cond := k2_sels lw_privs ++ tables_1
theorem lw_privs_ok : ∀ q ∈ lw_privs, lw_okq q := by
  show ∀ q ∈ lw_privs_1 ++ (lw_privs_2 ++ (lw_privs_3 ++ (lw_privs_4 ++ (lw_privs_5 ++ (lw_privs_6 ++ (lw_privs_7 ++ (lw_privs_8 ++ (lw_privs_9 ++ (lw_privs_10 ++ (lw_privs_11 ++ (lw_privs_12))))))))))), lw_okq q
  exact List.forall_mem_append.mpr ⟨lw_r1, List.forall_mem_append.mpr ⟨lw_r2, List.forall_mem_append.mpr ⟨lw_r3, List.forall_mem_append.mpr ⟨lw_r4, List.forall_mem_append.mpr ⟨lw_r5, List.forall_mem_append.mpr ⟨lw_r6, List.forall_mem_append.mpr ⟨lw_r7, List.forall_mem_append.mpr ⟨lw_r8, List.forall_mem_append.mpr ⟨lw_r9, List.forall_mem_append.mpr ⟨lw_r10, List.forall_mem_append.mpr ⟨lw_r11, lw_r12⟩⟩⟩⟩⟩⟩⟩⟩⟩⟩⟩
-- ===== end of PART A; then your names; then what follows =====
/-! THE CLAIM OUT OF ONE WALK OF THE LAW'S BODY. Your part is whole_start (and what it stands on); all else here is the same for every law, but numbers. -/
end
section
/-! ===== BEGIN words of one list among another's, by their places ===== -/
theorem goodIn_r {big : List Cond} (ws : List Cond) (ps : List Nat) (hp : ws = ps.filterMap (fun i => big[i]?)) (h : ws.all goodWord = true) : GoodIn big ws := by
  intro w hw
  have h1 := List.all_eq_true.mp h w hw
  rw [hp] at hw
  obtain ⟨i, -, hi⟩ := List.mem_filterMap.mp hw
  have hm : w ∈ big := by first | exact List.mem_of_getElem? hi | exact List.getElem?_mem hi
  exact ⟨hm, good_of_word h1⟩
theorem goodIn_app {big a b : List Cond} (ha : GoodIn big a) (hb : GoodIn big b) : GoodIn big (a ++ b) := fun w h => (List.mem_append.mp h).elim (ha w) (hb w)
theorem goodIn_ca {big a b : List Cond} {c : Cond} (ha : GoodIn big (c :: a)) (hb : GoodIn big b) : GoodIn big (c :: (a ++ b)) := fun w h => (List.mem_cons.mp h).elim (fun e => ha w (List.mem_cons.mpr (Or.inl e))) (fun h => (List.mem_append.mp h).elim (fun h => ha w (List.mem_cons.mpr (Or.inr h))) (hb w))
theorem goodIn_sub {big ws : List Cond} (hm : ∀ w ∈ ws, w ∈ big) (h : ws.all goodWord = true) : GoodIn big ws := fun w hw => ⟨hm w hw, good_of_word (List.all_eq_true.mp h w hw)⟩
/-! ===== END ===== -/

/-! ===== BEGIN exceptions that leave a method, and their catching by the caller (launches without stack traces) ===== -/
section VXA
/-! The laws vx_back, vx_callV, vx_callS, vx_callSW, vx_throw0, vx_throwS follow proofs of the library, with one case more: JvmDerived/Free/Laws.lean (Back.of_free), Shelf42/LK1.lean (callV, callS), Shelf/KitTraced.lean (throwNew0V, throwNewS). -/
def vx_T (XC : String → State → State → Prop) (st : State) (q : Addr) (t : State) (mc ms : Nat) (free : Addr → Prop) : Prop :=
  ∃ (E : String) (ce : Cell) (L : List Loc), XC E st t ∧ t.heap[q]? = some ce ∧ ce.vm = .none ∧ st.vm.findClass E = some ce.cls ∧ st.WarmedH t.vm ∧ st.sameButNew ({ t with vm := st.vm } : State) L mc ms ∧ ∀ z ∈ L, free z.base
def vx_Q (Qc : Array Value → State → Outcome → State → Prop) (XC : String → State → State → Prop) (mc ms : Nat) (free : Addr → Prop) : Array Value → State → Outcome → State → Prop := fun a st o t =>
  (Qc a st o t ∧ ∃ L, FrameEnd st o t L mc ms ∧ ∀ q ∈ L, free q.base) ∨ ∃ q, o = .threw q ∧ vx_T XC st q t mc ms free
def vx_Met (l : Launch) (y : MethodName) (ws : List Cond) (rm : Room) (Pc : Array Value → State → Prop) (Qc : Array Value → State → Outcome → State → Prop) (XC : String → State → State → Prop) (mc ms : Nat) (free : Addr → Prop) : Prop :=
  MetFree l y (headSpec ws rm) Pc (fun _ _ _ _ _ => True) (vx_Q Qc XC mc ms free)
def vx_Post (XC : String → State → State → Prop) (mc ms : Nat) (free : Addr → Prop) : Pt → Array Value → Addr → Pt → Prop := fun A a q B =>
  ∃ (g : JFrame) (mk : MethodId) (t : State) (L : List Loc) (E : String) (ce : Cell), B.U.heap = t.heap ∧ B.U.vm = t.vm ∧ XC E (A.U.calling g mk a) t ∧ t.heap[q]? = some ce ∧ ce.vm = .none ∧ A.U.vm.findClass E = some ce.cls ∧ B.locs = A.locs ++ L ∧ (∀ z ∈ L, free z.base) ∧ B.cells = A.cells + mc ∧ B.slots = A.slots + ms
def vx_Back (l : Launch) (R : Room) (p : Program) (e : Env) (below : List Frame) (s : State) (sargs : Array Value) (y : MethodName) (len W9 : Nat)
    (Pre : Pt → Array Value → Prop) (Post : Pt → Array Value → Option Value → Pt → Prop) (PostX : Pt → Array Value → Addr → Pt → Prop) : Prop :=
  ∀ (m : MethodId) (meth : Method) (c : Code) (A : Pt) (g : JFrame) (ig : Instr) (mk : MethodId) (a : Array Value),
    Stand p l e R s m sargs below meth c A.U A.locs A.cells A.slots → g.method = m → g.locals.size = c.maxLocals → decode c.code g.pc = .ok (ig, len) →
    2 * g.monitorRoom + (g.stack.map fun v => v.category).sum ≤ W9 → A.U.methodNamed? y = some mk → Pre A a →
    (∃ (v : Option Value) (B : Pt), Stand p l e R s m sargs below meth c B.U B.locs B.cells B.slots ∧ Post A a v B ∧
      Steps p.tables e below (doInvoke e (A.U.setTop g) [] mk a).1 (B.U.setTop { g with pc := g.pc + len, stack := v.toList ++ g.stack })) ∨
    (∃ (q : Addr) (B : Pt), Stand p l e R s m sargs below meth c B.U B.locs B.cells B.slots ∧ PostX A a q B ∧
      Steps p.tables e below (doInvoke e (A.U.setTop g) [] mk a).1 ((B.U.setTop g).pushFrame (.throwing q)))
section Payer
variable {l : Launch} {R : Room} {p : Program} {e : Env} {below : List Frame} {s : State} {sargs : Array Value} {y : MethodName} {len W9 : Nat}
theorem vx_back {ws : List Cond} {rm : Room} {Pc : Array Value → State → Prop} {Qc : Array Value → State → Outcome → State → Prop} {XC : String → State → State → Prop} {mc ms : Nat} {free : Addr → Prop} {bytes : ByteArray} {maxL : Nat} {ret : Option FieldType}
    (hM : vx_Met l y ws rm Pc Qc XC mc ms free) (hblind : FrameBlind Pc) (hrc : rm.cells = mc) (hrs : rm.slots = ms)
    (hframes : rm.frames + 1 ≤ R.frames) (hlocals : W9 + (maxL + 11) + rm.locals ≤ R.locals)
    (hws : ∀ w ∈ ws, ∀ a' U, s.WarmedH U.vm → w.before a' U = true) (hcode : Cond.code y bytes maxL ret ∈ ws) (hinit : ∀ a' U, s.WarmedH U.vm → (Cond.initialized y.cls).before a' U = true) :
    vx_Back l R p e below s sargs y len W9 (PreOf R mc ms Pc) (PostOf Qc mc ms free) (vx_Post XC mc ms free) := by
  intro m meth c A g ig mk a X hg hsize hdg hW hn hp
  have h1 : (headSpec ws rm).pre.before a A.U = true := atoms_intro fun w hw => hws w hw _ _ X.warmed
  have h2 : (Cond.code y bytes maxL ret).before a A.U = true := hws _ hcode _ _ X.warmed
  have h3 : (Cond.initialized y.cls).before a A.U = true := hinit _ _ X.warmed
  have h4 : A.cells + (headSpec ws rm).room.cells ≤ R.cells := by rw [show (headSpec ws rm).room.cells = mc from hrc]; exact hp.1
  have h5 : A.slots + (headSpec ws rm).room.slots ≤ R.slots := by rw [show (headSpec ws rm).room.slots = ms from hrs]; exact hp.2.1
  have hPc : Pc a (A.U.calling g mk a) := hblind _ _ _ _ hp.2.2
  obtain ⟨U, Ls, c0, s0⟩ := A
  dsimp only [Pt.U, Pt.locs, Pt.cells, Pt.slots] at h1 h2 h3 h4 h5 X hn hPc ⊢
  obtain ⟨methY, cY, hmY, hcY, -, hlY, -, -, -, -⟩ := Cond.code_spec hn h2
  obtain ⟨kY, hkY, -⟩ := className_of_methodNamed hn
  have hinitY : kY.init = .initialized := Cond.initialized_spec (findClass_of_methodNamed hn) hkY h3
  have h : At U g.method c below := by rw [hg]; exact X.here
  have hlocals9 : W9 + (maxL + 11) + (headSpec ws rm).room.locals ≤ R.locals := hlocals
  have happ : (headSpec ws rm).appliesLoose y e.platform (U.calling g mk a) = true :=
    Spec.appliesLoose_calling (g := g) h hdg hn hkY hinitY
      (X.room_calling (g := g) (R' := (headSpec ws rm).room) hsize hmY hcY hframes (by rw [hlY]; omega) h4 h5) h1
  obtain ⟨mid, hmid⟩ := h.above
  have hfr : (U.setTop g).frames = (.java g :: mid) ++ below := by rw [State.frames_setTop' g h.top, hmid]; rfl
  obtain ⟨o, s₂, hsteps, -, hend, hq⟩ := Steps.callFree hM p X.admits X.cas X.clock (acts := []) hfr happ hPc trivial
  have hq' : vx_Q Qc XC mc ms free a (U.calling g mk a) o s₂ := hq
  rw [State.frames_setTop' g h.top] at hend
  obtain ⟨g₀, hg0⟩ := Option.isSome_iff_exists.mp h.top
  obtain ⟨r, hr⟩ := State.topJava?_eq_some.mp hg0
  have hr' : (({ U with heap := s₂.heap, slotsUsed := s₂.slotsUsed } : State).setVm s₂.vm).frames = .java g₀ :: r := hr
  rcases hq' with ⟨hqc, L, hfe, hL⟩ | ⟨q, rfl, E, ce, L, hx, hce, hcv, hcl, hW₂, hsm, hL⟩
  · obtain ⟨⟨v, rfl⟩, hW₂, e2, q2, q3, q4, q5, q6⟩ := id hfe
    have e3 : s₂ = ({ (U.calling g mk a).setFrames s₂.frames with heap := s₂.heap, slotsUsed := s₂.slotsUsed } : State).setVm s₂.vm := by
      have : s₂ = ({ s₂ with vm := (U.calling g mk a).vm } : State).setVm s₂.vm := rfl
      rw [e2] at this
      exact this
    obtain ⟨c₂, i₂, len₂, hc₂, hd₂, hf₂⟩ := hend
    have hW' : U.WarmedH s₂.vm := hW₂
    have hcc : c₂ = c := by
      have h1 : s₂.code? g.method = U.code? g.method := by
        rw [State.code?_eq, State.code?_eq, hW'.alike.method?]
      exact Option.some.inj (hc₂.symm.trans (h1.trans h.code))
    subst hcc
    have hlen : len₂ = len := by rw [hdg] at hd₂; cases hd₂; rfl
    subst hlen
    have hs₂ : s₂ = (({ U with heap := s₂.heap, slotsUsed := s₂.slotsUsed } : State).setVm s₂.vm).setTop { g with pc := g.pc + len₂, stack := v.toList ++ g.stack } := by
      refine e3.trans ?_
      rw [hf₂, State.calling_eq h.top, State.setFrames_setFrames, State.setTop_of_frames _ hr', hr]
      rfl
    have hsame : U.sameButNew ({ U with heap := s₂.heap, slotsUsed := s₂.slotsUsed } : State) L mc ms := by
      refine ⟨?_, q2, q3, q4, q5, q6⟩
      obtain ⟨t, ht, -⟩ := State.frames_cons hr
      show ({ U with heap := s₂.heap, slotsUsed := s₂.slotsUsed } : State) = { U.setFrames U.frames with heap := s₂.heap, slotsUsed := s₂.slotsUsed }
      rw [State.setFrames_self ht]
    subst hg
    refine Or.inl ⟨v, ⟨(({ U with heap := s₂.heap, slotsUsed := s₂.slotsUsed } : State).setVm s₂.vm), Ls ++ L, c0 + mc, s0 + ms⟩,
      ⟨X.admits, X.cas, X.clock, X.frames, X.room, X.hears, X.method, X.code, (X.here.setHeapUsed s₂.heap s₂.slotsUsed).setVm hW'.alike, X.tail, State.WarmedH.trans X.warmed hW', X.limits, X.bytes, X.same.trans (hsame.setVm s.vm)⟩,
      ⟨g, mk, s₂, L, rfl, rfl, hqc, rfl, hL, rfl, rfl⟩, ?_⟩
    show Steps p.tables e below _ ((({ U with heap := s₂.heap, slotsUsed := s₂.slotsUsed } : State).setVm s₂.vm).setTop { g with pc := g.pc + len₂, stack := v.toList ++ g.stack })
    rw [← hs₂]
    exact hsteps
  · obtain ⟨e2, q2, q3, q4, q5, q6⟩ := id hsm
    have e3 : s₂ = ({ (U.calling g mk a).setFrames s₂.frames with heap := s₂.heap, slotsUsed := s₂.slotsUsed } : State).setVm s₂.vm := by
      have : s₂ = ({ s₂ with vm := (U.calling g mk a).vm } : State).setVm s₂.vm := rfl
      rw [e2] at this
      exact this
    have hf₂ : s₂.frames = .throwing q :: .java g :: U.frames.tail := hend
    have hW' : U.WarmedH s₂.vm := hW₂
    have hs₂ : s₂ = ((({ U with heap := s₂.heap, slotsUsed := s₂.slotsUsed } : State).setVm s₂.vm).setTop g).pushFrame (.throwing q) := by
      refine e3.trans ?_
      rw [hf₂, State.calling_eq h.top, State.setFrames_setFrames, State.pushFrame, State.frames_setTop _ hr', State.setTop_of_frames _ hr', State.setFrames_setFrames, hr]
      rfl
    have hsame : U.sameButNew ({ U with heap := s₂.heap, slotsUsed := s₂.slotsUsed } : State) L mc ms := by
      refine ⟨?_, q2, q3, q4, q5, q6⟩
      obtain ⟨t, ht, -⟩ := State.frames_cons hr
      show ({ U with heap := s₂.heap, slotsUsed := s₂.slotsUsed } : State) = { U.setFrames U.frames with heap := s₂.heap, slotsUsed := s₂.slotsUsed }
      rw [State.setFrames_self ht]
    subst hg
    refine Or.inr ⟨q, ⟨(({ U with heap := s₂.heap, slotsUsed := s₂.slotsUsed } : State).setVm s₂.vm), Ls ++ L, c0 + mc, s0 + ms⟩,
      ⟨X.admits, X.cas, X.clock, X.frames, X.room, X.hears, X.method, X.code, (X.here.setHeapUsed s₂.heap s₂.slotsUsed).setVm hW'.alike, X.tail, State.WarmedH.trans X.warmed hW', X.limits, X.bytes, X.same.trans (hsame.setVm s.vm)⟩,
      ⟨g, mk, s₂, L, E, ce, rfl, rfl, hx, hce, hcv, hcl, rfl, hL, rfl, rfl⟩, ?_⟩
    show Steps p.tables e below _ (((({ U with heap := s₂.heap, slotsUsed := s₂.slotsUsed } : State).setVm s₂.vm).setTop g).pushFrame (.throwing q))
    rw [← hs₂]
    exact hsteps
end Payer
section Calls
variable {p : Program} {l : Launch} {e : Env} {R : Room} {s : State} {m : MethodId} {args : Array Value} {below : List Frame} {meth : Method} {c : Code} {T : State} {locs : List Loc} {cells slots : Nat}
theorem vx_callV (X : Stand p l e R s m args below meth c T locs cells slots) (hexec : p.tables.exec = Jvm.exec) {own C : String} {index : Nat} {y : MethodName} {bytes : ByteArray} {maxL : Nat} {ret : Option FieldType}
    (hown : s.vm.findClass own = some m.cls) (hlink : (Cond.methodLink own index y).before args s = true) (hinst : (Cond.instanceMethod y).before args s = true) (hsel : (Cond.selects C y y).before args s = true)
    (hcode : (Cond.code y bytes maxL ret).before args s = true) (hy : y.cls ≠ "java/lang/invoke/MethodHandle" ∧ y.cls ≠ "java/lang/invoke/VarHandle")
    {W9 : Nat} {Pre : Pt → Array Value → Prop} {Post : Pt → Array Value → Option Value → Pt → Prop} {PostX : Pt → Array Value → Addr → Pt → Prop} (hK : vx_Back l R p e below s args y 3 W9 Pre Post PostX)
    {b : Addr} {cellB : Cell} (hcell : T.heap[b]? = some cellB) (hobj : cellB.vm.isStatics = false) (hcls : s.vm.findClass C = some cellB.cls)
    {g : JFrame} (hg : g.method = m) (hsize : g.locals.size = c.maxLocals) {argsL rest : List Value} (hlen : ∀ sig, parseMethodDescriptor y.desc = some sig → argsL.length = sig.parameters.length)
    (hstack : g.stack = argsL.reverse ++ .ref b :: rest) (hW : 2 * g.monitorRoom + (rest.map fun v => v.category).sum ≤ W9) (hdg : decode c.code g.pc = .ok (.invokevirtual index, 3))
    (hpre : ∀ vm₁, s.WarmedH vm₁ → Pre ⟨T.setVm vm₁, locs, cells, slots⟩ (Value.ref b :: argsL).toArray) :
    (∃ (v : Option Value) (vm₁ : Vm) (B : Pt), s.WarmedH vm₁ ∧ Stand p l e R s m args below meth c B.U B.locs B.cells B.slots ∧ Post ⟨T.setVm vm₁, locs, cells, slots⟩ (Value.ref b :: argsL).toArray v B ∧
      ∀ target, Steps p.tables e below (B.U.setTop { g with pc := g.pc + 3, stack := v.toList ++ rest }) target → Steps p.tables e below (T.setTop g) target) ∨
    (∃ (q : Addr) (vm₁ : Vm) (B : Pt), s.WarmedH vm₁ ∧ Stand p l e R s m args below meth c B.U B.locs B.cells B.slots ∧ PostX ⟨T.setVm vm₁, locs, cells, slots⟩ (Value.ref b :: argsL).toArray q B ∧
      Steps p.tables e below (T.setTop g) ((B.U.setTop { g with stack := rest }).pushFrame (.throwing q))) := by
  obtain ⟨mk, methM, hnamed, hmethM, hstM, habM⟩ := Cond.instanceMethod_spec hinst
  obtain ⟨methM', cM, hmethM', -, -, -, -, -, -, hsigM⟩ := Cond.code_spec hnamed hcode
  cases hmethM.symm.trans hmethM'
  obtain ⟨c2, r2, m2, q1, q2, q3, q4, kP, hkP, hkPi⟩ := Cond.selects_spec hsel
  cases hcls.symm.trans q1
  cases (State.methodFound?_of_named hnamed hy).symm.trans q2
  cases hnamed.symm.trans q3
  have hselP : selectMethod e.platform s.vm cellB.cls mk = .method mk := by rw [Launch.admits_selectMethod X.admits]; exact q4
  obtain ⟨vm₁, X₁, hstep₁⟩ := X.invokevirtual hexec hown hlink hnamed hmethM hstM hkP hkPi hy (a := b) (cell := cellB) hcell
    (fun z h => by rw [h] at hobj; cases hobj) hselP hmethM habM hkP hkPi (g := g) hg (argsL := argsL) (rest := rest) (hlen _ hsigM) hstack hdg
  rcases hK m meth c ⟨T.setVm vm₁, locs, cells, slots⟩ { g with stack := rest } (.invokevirtual index) mk (Value.ref b :: argsL).toArray X₁ hg hsize hdg hW (X₁.named hnamed) (hpre vm₁ X₁.warmed) with ⟨v, B, X', hpost, hsteps⟩ | ⟨q, B, X', hpost, hsteps⟩
  · exact Or.inl ⟨v, vm₁, B, X₁.warmed, X', hpost, fun target h => hstep₁ _ fun acts => by rw [doInvoke_state]; exact hsteps.trans h⟩
  · exact Or.inr ⟨q, vm₁, B, X₁.warmed, X', hpost, hstep₁ _ fun acts => by rw [doInvoke_state]; exact hsteps⟩
theorem vx_callS (X : Stand p l e R s m args below meth c T locs cells slots) (hexec : p.tables.exec = Jvm.exec) {own : String} {index : Nat} {y : MethodName} {bytes : ByteArray} {maxL : Nat} {ret : Option FieldType}
    (hown : s.vm.findClass own = some m.cls) (hlink : (Cond.methodLink own index y).before args s = true) (hstat : (Cond.static y).before args s = true) (hinit : (Cond.initialized y.cls).before args s = true)
    (hcode : (Cond.code y bytes maxL ret).before args s = true) (hy : y.cls ≠ "java/lang/invoke/MethodHandle" ∧ y.cls ≠ "java/lang/invoke/VarHandle")
    {W9 : Nat} {Pre : Pt → Array Value → Prop} {Post : Pt → Array Value → Option Value → Pt → Prop} {PostX : Pt → Array Value → Addr → Pt → Prop} (hK : vx_Back l R p e below s args y 3 W9 Pre Post PostX)
    {g : JFrame} (hg : g.method = m) (hsize : g.locals.size = c.maxLocals) {argsL rest : List Value} (hlen : ∀ sig, parseMethodDescriptor y.desc = some sig → argsL.length = sig.parameters.length)
    (hstack : g.stack = argsL.reverse ++ rest) (hW : 2 * g.monitorRoom + (rest.map fun v => v.category).sum ≤ W9) (hdg : decode c.code g.pc = .ok (.invokestatic index, 3))
    (hpre : ∀ vm₁, s.WarmedH vm₁ → Pre ⟨T.setVm vm₁, locs, cells, slots⟩ argsL.toArray) :
    (∃ (v : Option Value) (vm₁ : Vm) (B : Pt), s.WarmedH vm₁ ∧ Stand p l e R s m args below meth c B.U B.locs B.cells B.slots ∧ Post ⟨T.setVm vm₁, locs, cells, slots⟩ argsL.toArray v B ∧
      ∀ target, Steps p.tables e below (B.U.setTop { g with pc := g.pc + 3, stack := v.toList ++ rest }) target → Steps p.tables e below (T.setTop g) target) ∨
    (∃ (q : Addr) (vm₁ : Vm) (B : Pt), s.WarmedH vm₁ ∧ Stand p l e R s m args below meth c B.U B.locs B.cells B.slots ∧ PostX ⟨T.setVm vm₁, locs, cells, slots⟩ argsL.toArray q B ∧
      Steps p.tables e below (T.setTop g) ((B.U.setTop { g with stack := rest }).pushFrame (.throwing q))) := by
  obtain ⟨mk, hnamed⟩ := Cond.code_named hcode
  obtain ⟨methM, cM, hmethM, -, -, -, -, -, -, hsigM⟩ := Cond.code_spec hnamed hcode
  have hstatic : methM.isStatic = true := Cond.static_spec hnamed hmethM hstat
  obtain ⟨kP, hkP, -⟩ := className_of_methodNamed hnamed
  have hinitP : kP.init = .initialized := Cond.initialized_spec (findClass_of_methodNamed hnamed) hkP hinit
  obtain ⟨vm₁, X₁, hstep₁⟩ := X.invokestatic hexec hown hlink hnamed hmethM hstatic hkP hinitP hy (g := g) hg (argsL := argsL) (rest := rest) (hlen _ hsigM) hstack hdg
  rcases hK m meth c ⟨T.setVm vm₁, locs, cells, slots⟩ { g with stack := rest } (.invokestatic index) mk argsL.toArray X₁ hg hsize hdg hW (X₁.named hnamed) (hpre vm₁ X₁.warmed) with ⟨v, B, X', hpost, hsteps⟩ | ⟨q, B, X', hpost, hsteps⟩
  · exact Or.inl ⟨v, vm₁, B, X₁.warmed, X', hpost, fun target h => hstep₁ _ fun acts => by rw [doInvoke_state]; exact hsteps.trans h⟩
  · exact Or.inr ⟨q, vm₁, B, X₁.warmed, X', hpost, hstep₁ _ fun acts => by rw [doInvoke_state]; exact hsteps⟩
end Calls
theorem vx_cls {s : State} {T : State} {vm₁ : Vm} {E : String} {k : ClassId} (hW : s.WarmedH vm₁) (h : (T.setVm vm₁).vm.findClass E = some k) : s.vm.findClass E = some k := by
  have h1 : vm₁.findClass E = some k := h
  rw [hW.alike.findClass] at h1
  exact h1
def vx_W (p : Program) (l : Launch) (e : Env) (R : Room) (s : State) (m : MethodId) (args : Array Value) (below : List Frame) (meth : Method) (c : Code) (H : Heap) (locs : List Loc) (cells slots : Nat) (Q : State → Prop) (g : JFrame) (q : Addr) : Prop :=
  ∀ T : State, T.heap = H → Stand p l e R s m args below meth c T locs cells slots → ∃ t, Steps p.tables e below ((T.setTop g).pushFrame (.throwing q)) t ∧ Q t
def vx_Run (p : Program) (l : Launch) (e : Env) (R : Room) (s : State) (m : MethodId) (args : Array Value) (below : List Frame) (meth : Method) (c : Code) (H : Heap) (locs : List Loc) (cells slots mc ms : Nat) (g : JFrame) (rest : List Value) (Qa : State → Outcome → State → Prop) (XC : String → State → State → Prop) (free : Addr → Prop) : Prop :=
  ∀ T : State, T.heap = H → Stand p l e R s m args below meth c T locs cells slots →
    (∃ (v : Option Value) (st₀ t T' : State) (L : List Loc), st₀.heap = H ∧ Stand p l e R s m args below meth c T' (locs ++ L) (cells + mc) (slots + ms) ∧ (∀ q ∈ L, free q.base) ∧ T'.heap = t.heap ∧ T'.vm = t.vm ∧ Qa st₀ (.returned v) t ∧
      Goes p e below T g T' { g with pc := g.pc + 3, stack := v.toList ++ rest }) ∨
    (∃ (q : Addr) (st₀ t T' : State) (L : List Loc) (E : String) (ce : Cell), st₀.heap = H ∧ Stand p l e R s m args below meth c T' (locs ++ L) (cells + mc) (slots + ms) ∧ (∀ z ∈ L, free z.base) ∧ T'.heap = t.heap ∧ T'.vm = t.vm ∧ XC E st₀ t ∧ t.heap[q]? = some ce ∧ ce.vm = .none ∧ s.vm.findClass E = some ce.cls ∧
      Steps p.tables e below (T.setTop g) ((T'.setTop { g with stack := rest }).pushFrame (.throwing q)))
def vx_X {S : Type} (px : S → Prop) (B : String → S → State → Prop) (A : Nat → Prop) : String → State → State → Prop := fun E st t => ∃ u : S, px u ∧ B E u t ∧ va_F A st t
section Runs
variable {p : Program} {l : Launch} {e : Env} {R : Room} {s : State} {m : MethodId} {args : Array Value} {below : List Frame} {meth : Method} {c : Code} {H : Heap} {locs : List Loc} {cells slots : Nat}
variable {y : MethodName} {bytes cc : ByteArray} {maxL nL mc ms n index : Nat} {ret : Option FieldType} {ws : List Cond} {rm : Room} {Pc : Array Value → State → Prop} {Qc : Array Value → State → Outcome → State → Prop} {XC : String → State → State → Prop} {free : Addr → Prop} {Ts : List Cond} {own C : String} {b : Addr} {As rest : List Value} {g : JFrame}
theorem vx_callBack (cb : CallB R s args own index y bytes maxL ret ws rm mc ms n) (hM : vx_Met l y ws rm Pc Qc XC mc ms free) (hbl : FrameBlind Pc) : vx_Back l R p e below s args y 3 8 (PreOf R mc ms Pc) (PostOf Qc mc ms free) (vx_Post XC mc ms free) := by
  obtain ⟨hrc, hrs, hfr, hlo, hws, hcw, -, hini, -⟩ := cb
  exact vx_back (bytes := bytes) (maxL := maxL) (ret := ret) hM hbl hrc hrs hfr hlo hws hcw (fun a' U hW => word_at hW (Or.inl (by first | rfl | simp [Cond.onTables, Cond.keeps, Cond.steady])) hini)
theorem vx_runV (S : CallFix p m c cc nL s args Ts own) (hM : vx_Met l y ws rm Pc Qc XC mc ms free) (cw : CallW R s args own C index y bytes maxL ret ws rm mc ms n) (hp : PreV s H C b Pc As)
    (hg : g.method = m) (hn : As.length = n) (hsize : g.locals.size = nL) (hstack : g.stack = As.reverse ++ .ref b :: rest) (hW : 2 * g.monitorRoom + (rest.map fun v => v.category).sum ≤ 8) (hdg : decode cc g.pc = .ok (.invokevirtual index, 3)) (hf : cells + mc ≤ R.cells ∧ slots + ms ≤ R.slots) :
    vx_Run p l e R s m args below meth c H locs cells slots mc ms g rest (Qc (Value.ref b :: As).toArray) XC free := by
  have hK : vx_Back l R p e below s args y 3 8 (PreOf R mc ms Pc) (PostOf Qc mc ms free) (vx_Post XC mc ms free) := vx_callBack cw.1 hM hp.1
  obtain ⟨⟨-, -, -, -, -, -, hcode, -, hy, hlen, hl⟩, hin, hse⟩ := cw
  obtain ⟨hx, hb, hml, ho, -⟩ := S
  obtain ⟨-, ⟨cellB, hcB, hoB, hclB⟩, hPc⟩ := hp
  intro T hT X
  rcases vx_callV X hx (C := C) (bytes := bytes) (maxL := maxL) (ret := ret) ho hl hin hse hcode hy hK (by rw [hT]; exact hcB) hoB hclB hg (hsize.trans hml.symm) (argsL := As) (rest := rest) (fun sig h => hn.trans (hlen sig h)) hstack hW (by rw [hb]; exact hdg)
    (fun vm₁ hW₁ => ⟨hf.1, hf.2, hPc (T.setVm vm₁) hT hW₁⟩) with ⟨v, vm₁, ⟨U', l2, c2, s2⟩, hW₁, X', ⟨g', mk, t, L, e1, e2, hq, h1, hL, h2, h3⟩, st⟩ | ⟨q, vm₁, ⟨U', l2, c2, s2⟩, hW₁, X', ⟨g', mk, t, L, E, ce, e1, e2, hq, hce, hcv, hcl, h1, hL, h2, h3⟩, st⟩
  · dsimp only [Pt.U, Pt.locs, Pt.cells, Pt.slots] at X' e1 e2 h1 h2 h3 st
    subst h1; subst h2; subst h3
    exact Or.inl ⟨v, (T.setVm vm₁).calling g' mk (Value.ref b :: As).toArray, t, U', L, hT, X', hL, e1, e2, hq, st⟩
  · dsimp only [Pt.U, Pt.locs, Pt.cells, Pt.slots] at X' e1 e2 h1 h2 h3 st hcl
    subst h1; subst h2; subst h3
    exact Or.inr ⟨q, (T.setVm vm₁).calling g' mk (Value.ref b :: As).toArray, t, U', L, E, ce, hT, X', hL, e1, e2, hq, hce, hcv, vx_cls hW₁ hcl, st⟩
theorem vx_runS (S : CallFix p m c cc nL s args Ts own) (hM : vx_Met l y ws rm Pc Qc XC mc ms free) (cw : CallB R s args own index y bytes maxL ret ws rm mc ms n ∧ (Cond.static y).before args s = true) (hp : PreS s H Pc As)
    (hg : g.method = m) (hn : As.length = n) (hsize : g.locals.size = nL) (hstack : g.stack = As.reverse ++ rest) (hW : 2 * g.monitorRoom + (rest.map fun v => v.category).sum ≤ 8) (hdg : decode cc g.pc = .ok (.invokestatic index, 3)) (hf : cells + mc ≤ R.cells ∧ slots + ms ≤ R.slots) :
    vx_Run p l e R s m args below meth c H locs cells slots mc ms g rest (Qc As.toArray) XC free := by
  have hK : vx_Back l R p e below s args y 3 8 (PreOf R mc ms Pc) (PostOf Qc mc ms free) (vx_Post XC mc ms free) := vx_callBack cw.1 hM hp.1
  obtain ⟨⟨-, -, -, -, -, -, hcode, hini, hy, hlen, hl⟩, hstt⟩ := cw
  obtain ⟨hx, hb, hml, ho, -⟩ := S
  intro T hT X
  rcases vx_callS X hx (bytes := bytes) (maxL := maxL) (ret := ret) ho hl hstt hini hcode hy hK hg (hsize.trans hml.symm) (argsL := As) (rest := rest) (fun sig h => hn.trans (hlen sig h)) hstack hW (by rw [hb]; exact hdg)
    (fun vm₁ hW₁ => ⟨hf.1, hf.2, hp.2 (T.setVm vm₁) hT hW₁⟩) with ⟨v, vm₁, ⟨U', l2, c2, s2⟩, hW₁, X', ⟨g', mk, t, L, e1, e2, hq, h1, hL, h2, h3⟩, st⟩ | ⟨q, vm₁, ⟨U', l2, c2, s2⟩, hW₁, X', ⟨g', mk, t, L, E, ce, e1, e2, hq, hce, hcv, hcl, h1, hL, h2, h3⟩, st⟩
  · dsimp only [Pt.U, Pt.locs, Pt.cells, Pt.slots] at X' e1 e2 h1 h2 h3 st
    subst h1; subst h2; subst h3
    exact Or.inl ⟨v, (T.setVm vm₁).calling g' mk As.toArray, t, U', L, hT, X', hL, e1, e2, hq, st⟩
  · dsimp only [Pt.U, Pt.locs, Pt.cells, Pt.slots] at X' e1 e2 h1 h2 h3 st hcl
    subst h1; subst h2; subst h3
    exact Or.inr ⟨q, (T.setVm vm₁).calling g' mk As.toArray, t, U', L, E, ce, hT, X', hL, e1, e2, hq, hce, hcv, vx_cls hW₁ hcl, st⟩
end Runs
section Rows
variable {p : Program} {l : Launch} {e : Env} {R : Room} {s : State} {m : MethodId} {args : Array Value} {below : List Frame} {meth : Method} {c : Code} {H : Heap} {locs : List Loc} {cells slots : Nat} {Q : State → Prop}
variable {mc ms : Nat} {free : Addr → Prop} {A0 A1 : Nat → Prop} {H0 : Heap} {a : Array Value} {pc : Nat} {ls : Array Slot} {st0 rest : List Value}
theorem vx_keep {st₀ t T' : State} {L : List Loc} (h0 : st₀.heap = H) (e1 : T'.heap = t.heap) (hS : va_S A0 H0 H locs) (hA : ∀ q, q < H.size → A1 q → A0 q) (hf : ∀ q, free q → A0 q) (hL : ∀ q ∈ L, free q.base) (hF : va_F A1 st₀ t) :
    H.size ≤ T'.heap.size ∧ (∀ q : Nat, q < H.size → ¬ A1 q → T'.heap[q]? = H[q]?) ∧ va_S A0 H0 T'.heap (locs ++ L) := by
  obtain ⟨hz, hk⟩ := hF
  rw [h0] at hz hk
  exact ⟨by rw [e1]; exact hz, fun q h1 h2 => by rw [e1]; exact hk q h1 h2,
    ⟨Nat.le_trans hS.1 (by rw [e1]; exact hz), fun q h1 h2 => by rw [e1, hk q (Nat.lt_of_lt_of_le h1 hS.1) (fun z => h2 (hA q (Nat.lt_of_lt_of_le h1 hS.1) z))]; exact hS.2.1 q h1 h2, fun q hq => by
      rcases List.mem_append.mp hq with h | h
      · exact hS.2.2 q h
      · exact hf _ (hL q h)⟩⟩
theorem vx_calli {S SX : Type} {post : Int32 → S → Prop} {px : SX → Prop} {B : S → State → Prop} {BX : String → SX → State → Prop} {AX : Nat → Prop} (hr : vx_Run p l e R s m args below meth c H locs cells slots mc ms (F0 m pc ls st0) rest (va_Qi post B A1 a) (vx_X px BX AX) free) (hS : va_S A0 H0 H locs) (hA : ∀ q, q < H.size → A1 q → A0 q) (hf : ∀ q, free q → A0 q) (hAX : ∀ q, q < H.size → AX q → A0 q)
    (kx : ∀ (E : String) (ce : Cell) (q9 : Addr) (u : SX) (t : State) (H1 : Heap) (locs1 : List Loc), t.heap = H1 → s.vm.Alike t.vm → px u → BX E u t → H.size ≤ H1.size → (∀ q : Nat, q < H.size → ¬ AX q → H1[q]? = H[q]?) → va_S A0 H0 H1 locs1 → H1[q9]? = some ce → ce.vm = .none → s.vm.findClass E = some ce.cls → vx_W p l e R s m args below meth c H1 locs1 (cells + mc) (slots + ms) Q (F0 m pc ls rest) q9)
    (kk : ∀ (r : Int32) (u : S) (t : State) (H1 : Heap) (locs1 : List Loc), t.heap = H1 → s.vm.Alike t.vm → post r u → B u t → H.size ≤ H1.size → (∀ q : Nat, q < H.size → ¬ A1 q → H1[q]? = H[q]?) → va_S A0 H0 H1 locs1 → W p l e R s m args below meth c H1 locs1 (cells + mc) (slots + ms) Q (F0 m (pc + 3) ls (.int r :: rest))) : W p l e R s m args below meth c H locs cells slots Q (F0 m pc ls st0) := by
  intro T hT X
  rcases hr T hT X with ⟨v, st₀, t, T', L, h0, X', hL, e1, e2, ⟨⟨r, u, hv, hp, hb⟩, hF⟩, st⟩ | ⟨q, st₀, t, T', L, E, ce, h0, X', hL, e1, e2, ⟨u, hp, hb, hF⟩, hce, hcv, hcl, st⟩
  · cases hv
    obtain ⟨k1, k2, k3⟩ := vx_keep h0 e1 hS hA hf hL hF
    obtain ⟨t2, a1, b1⟩ := kk r u t T'.heap (locs ++ L) e1.symm (by rw [← e2]; exact X'.warmed.alike) hp hb k1 k2 k3 T' rfl X'
    exact ⟨t2, st t2 a1, b1⟩
  · obtain ⟨k1, k2, k3⟩ := vx_keep h0 e1 hS hAX hf hL hF
    obtain ⟨t2, a1, b1⟩ := kx E ce q u t T'.heap (locs ++ L) e1.symm (by rw [← e2]; exact X'.warmed.alike) hp hb k1 k2 k3 (by rw [e1]; exact hce) hcv hcl T' rfl X'
    exact ⟨t2, st.trans a1, b1⟩
theorem vx_calll {S SX : Type} {post : Int64 → S → Prop} {px : SX → Prop} {B : S → State → Prop} {BX : String → SX → State → Prop} {AX : Nat → Prop} (hr : vx_Run p l e R s m args below meth c H locs cells slots mc ms (F0 m pc ls st0) rest (va_Ql post B A1 a) (vx_X px BX AX) free) (hS : va_S A0 H0 H locs) (hA : ∀ q, q < H.size → A1 q → A0 q) (hf : ∀ q, free q → A0 q) (hAX : ∀ q, q < H.size → AX q → A0 q)
    (kx : ∀ (E : String) (ce : Cell) (q9 : Addr) (u : SX) (t : State) (H1 : Heap) (locs1 : List Loc), t.heap = H1 → s.vm.Alike t.vm → px u → BX E u t → H.size ≤ H1.size → (∀ q : Nat, q < H.size → ¬ AX q → H1[q]? = H[q]?) → va_S A0 H0 H1 locs1 → H1[q9]? = some ce → ce.vm = .none → s.vm.findClass E = some ce.cls → vx_W p l e R s m args below meth c H1 locs1 (cells + mc) (slots + ms) Q (F0 m pc ls rest) q9)
    (kk : ∀ (r : Int64) (u : S) (t : State) (H1 : Heap) (locs1 : List Loc), t.heap = H1 → s.vm.Alike t.vm → post r u → B u t → H.size ≤ H1.size → (∀ q : Nat, q < H.size → ¬ A1 q → H1[q]? = H[q]?) → va_S A0 H0 H1 locs1 → W p l e R s m args below meth c H1 locs1 (cells + mc) (slots + ms) Q (F0 m (pc + 3) ls (.long r :: rest))) : W p l e R s m args below meth c H locs cells slots Q (F0 m pc ls st0) := by
  intro T hT X
  rcases hr T hT X with ⟨v, st₀, t, T', L, h0, X', hL, e1, e2, ⟨⟨r, u, hv, hp, hb⟩, hF⟩, st⟩ | ⟨q, st₀, t, T', L, E, ce, h0, X', hL, e1, e2, ⟨u, hp, hb, hF⟩, hce, hcv, hcl, st⟩
  · cases hv
    obtain ⟨k1, k2, k3⟩ := vx_keep h0 e1 hS hA hf hL hF
    obtain ⟨t2, a1, b1⟩ := kk r u t T'.heap (locs ++ L) e1.symm (by rw [← e2]; exact X'.warmed.alike) hp hb k1 k2 k3 T' rfl X'
    exact ⟨t2, st t2 a1, b1⟩
  · obtain ⟨k1, k2, k3⟩ := vx_keep h0 e1 hS hAX hf hL hF
    obtain ⟨t2, a1, b1⟩ := kx E ce q u t T'.heap (locs ++ L) e1.symm (by rw [← e2]; exact X'.warmed.alike) hp hb k1 k2 k3 (by rw [e1]; exact hce) hcv hcl T' rfl X'
    exact ⟨t2, st.trans a1, b1⟩
theorem vx_callf {S SX : Type} {post : UInt32 → S → Prop} {px : SX → Prop} {B : S → State → Prop} {BX : String → SX → State → Prop} {AX : Nat → Prop} (hr : vx_Run p l e R s m args below meth c H locs cells slots mc ms (F0 m pc ls st0) rest (va_Qf post B A1 a) (vx_X px BX AX) free) (hS : va_S A0 H0 H locs) (hA : ∀ q, q < H.size → A1 q → A0 q) (hf : ∀ q, free q → A0 q) (hAX : ∀ q, q < H.size → AX q → A0 q)
    (kx : ∀ (E : String) (ce : Cell) (q9 : Addr) (u : SX) (t : State) (H1 : Heap) (locs1 : List Loc), t.heap = H1 → s.vm.Alike t.vm → px u → BX E u t → H.size ≤ H1.size → (∀ q : Nat, q < H.size → ¬ AX q → H1[q]? = H[q]?) → va_S A0 H0 H1 locs1 → H1[q9]? = some ce → ce.vm = .none → s.vm.findClass E = some ce.cls → vx_W p l e R s m args below meth c H1 locs1 (cells + mc) (slots + ms) Q (F0 m pc ls rest) q9)
    (kk : ∀ (r : UInt32) (u : S) (t : State) (H1 : Heap) (locs1 : List Loc), t.heap = H1 → s.vm.Alike t.vm → post r u → B u t → H.size ≤ H1.size → (∀ q : Nat, q < H.size → ¬ A1 q → H1[q]? = H[q]?) → va_S A0 H0 H1 locs1 → W p l e R s m args below meth c H1 locs1 (cells + mc) (slots + ms) Q (F0 m (pc + 3) ls (.float r :: rest))) : W p l e R s m args below meth c H locs cells slots Q (F0 m pc ls st0) := by
  intro T hT X
  rcases hr T hT X with ⟨v, st₀, t, T', L, h0, X', hL, e1, e2, ⟨⟨r, u, hv, hp, hb⟩, hF⟩, st⟩ | ⟨q, st₀, t, T', L, E, ce, h0, X', hL, e1, e2, ⟨u, hp, hb, hF⟩, hce, hcv, hcl, st⟩
  · cases hv
    obtain ⟨k1, k2, k3⟩ := vx_keep h0 e1 hS hA hf hL hF
    obtain ⟨t2, a1, b1⟩ := kk r u t T'.heap (locs ++ L) e1.symm (by rw [← e2]; exact X'.warmed.alike) hp hb k1 k2 k3 T' rfl X'
    exact ⟨t2, st t2 a1, b1⟩
  · obtain ⟨k1, k2, k3⟩ := vx_keep h0 e1 hS hAX hf hL hF
    obtain ⟨t2, a1, b1⟩ := kx E ce q u t T'.heap (locs ++ L) e1.symm (by rw [← e2]; exact X'.warmed.alike) hp hb k1 k2 k3 (by rw [e1]; exact hce) hcv hcl T' rfl X'
    exact ⟨t2, st.trans a1, b1⟩
theorem vx_calld {S SX : Type} {post : UInt64 → S → Prop} {px : SX → Prop} {B : S → State → Prop} {BX : String → SX → State → Prop} {AX : Nat → Prop} (hr : vx_Run p l e R s m args below meth c H locs cells slots mc ms (F0 m pc ls st0) rest (va_Qd post B A1 a) (vx_X px BX AX) free) (hS : va_S A0 H0 H locs) (hA : ∀ q, q < H.size → A1 q → A0 q) (hf : ∀ q, free q → A0 q) (hAX : ∀ q, q < H.size → AX q → A0 q)
    (kx : ∀ (E : String) (ce : Cell) (q9 : Addr) (u : SX) (t : State) (H1 : Heap) (locs1 : List Loc), t.heap = H1 → s.vm.Alike t.vm → px u → BX E u t → H.size ≤ H1.size → (∀ q : Nat, q < H.size → ¬ AX q → H1[q]? = H[q]?) → va_S A0 H0 H1 locs1 → H1[q9]? = some ce → ce.vm = .none → s.vm.findClass E = some ce.cls → vx_W p l e R s m args below meth c H1 locs1 (cells + mc) (slots + ms) Q (F0 m pc ls rest) q9)
    (kk : ∀ (r : UInt64) (u : S) (t : State) (H1 : Heap) (locs1 : List Loc), t.heap = H1 → s.vm.Alike t.vm → post r u → B u t → H.size ≤ H1.size → (∀ q : Nat, q < H.size → ¬ A1 q → H1[q]? = H[q]?) → va_S A0 H0 H1 locs1 → W p l e R s m args below meth c H1 locs1 (cells + mc) (slots + ms) Q (F0 m (pc + 3) ls (.double r :: rest))) : W p l e R s m args below meth c H locs cells slots Q (F0 m pc ls st0) := by
  intro T hT X
  rcases hr T hT X with ⟨v, st₀, t, T', L, h0, X', hL, e1, e2, ⟨⟨r, u, hv, hp, hb⟩, hF⟩, st⟩ | ⟨q, st₀, t, T', L, E, ce, h0, X', hL, e1, e2, ⟨u, hp, hb, hF⟩, hce, hcv, hcl, st⟩
  · cases hv
    obtain ⟨k1, k2, k3⟩ := vx_keep h0 e1 hS hA hf hL hF
    obtain ⟨t2, a1, b1⟩ := kk r u t T'.heap (locs ++ L) e1.symm (by rw [← e2]; exact X'.warmed.alike) hp hb k1 k2 k3 T' rfl X'
    exact ⟨t2, st t2 a1, b1⟩
  · obtain ⟨k1, k2, k3⟩ := vx_keep h0 e1 hS hAX hf hL hF
    obtain ⟨t2, a1, b1⟩ := kx E ce q u t T'.heap (locs ++ L) e1.symm (by rw [← e2]; exact X'.warmed.alike) hp hb k1 k2 k3 (by rw [e1]; exact hce) hcv hcl T' rfl X'
    exact ⟨t2, st.trans a1, b1⟩
theorem vx_callv {S SX : Type} {post : S → Prop} {px : SX → Prop} {B : S → State → Prop} {BX : String → SX → State → Prop} {AX : Nat → Prop} (hr : vx_Run p l e R s m args below meth c H locs cells slots mc ms (F0 m pc ls st0) rest (va_Qv post B A1 a) (vx_X px BX AX) free) (hS : va_S A0 H0 H locs) (hA : ∀ q, q < H.size → A1 q → A0 q) (hf : ∀ q, free q → A0 q) (hAX : ∀ q, q < H.size → AX q → A0 q)
    (kx : ∀ (E : String) (ce : Cell) (q9 : Addr) (u : SX) (t : State) (H1 : Heap) (locs1 : List Loc), t.heap = H1 → s.vm.Alike t.vm → px u → BX E u t → H.size ≤ H1.size → (∀ q : Nat, q < H.size → ¬ AX q → H1[q]? = H[q]?) → va_S A0 H0 H1 locs1 → H1[q9]? = some ce → ce.vm = .none → s.vm.findClass E = some ce.cls → vx_W p l e R s m args below meth c H1 locs1 (cells + mc) (slots + ms) Q (F0 m pc ls rest) q9)
    (kk : ∀ (u : S) (t : State) (H1 : Heap) (locs1 : List Loc), t.heap = H1 → s.vm.Alike t.vm → post u → B u t → H.size ≤ H1.size → (∀ q : Nat, q < H.size → ¬ A1 q → H1[q]? = H[q]?) → va_S A0 H0 H1 locs1 → W p l e R s m args below meth c H1 locs1 (cells + mc) (slots + ms) Q (F0 m (pc + 3) ls (rest))) : W p l e R s m args below meth c H locs cells slots Q (F0 m pc ls st0) := by
  intro T hT X
  rcases hr T hT X with ⟨v, st₀, t, T', L, h0, X', hL, e1, e2, ⟨⟨u, hv, hp, hb⟩, hF⟩, st⟩ | ⟨q, st₀, t, T', L, E, ce, h0, X', hL, e1, e2, ⟨u, hp, hb, hF⟩, hce, hcv, hcl, st⟩
  · cases hv
    obtain ⟨k1, k2, k3⟩ := vx_keep h0 e1 hS hA hf hL hF
    obtain ⟨t2, a1, b1⟩ := kk u t T'.heap (locs ++ L) e1.symm (by rw [← e2]; exact X'.warmed.alike) hp hb k1 k2 k3 T' rfl X'
    exact ⟨t2, st t2 a1, b1⟩
  · obtain ⟨k1, k2, k3⟩ := vx_keep h0 e1 hS hAX hf hL hF
    obtain ⟨t2, a1, b1⟩ := kx E ce q u t T'.heap (locs ++ L) e1.symm (by rw [← e2]; exact X'.warmed.alike) hp hb k1 k2 k3 (by rw [e1]; exact hce) hcv hcl T' rfl X'
    exact ⟨t2, st.trans a1, b1⟩
end Rows
section Ends
variable {p : Program} {l : Launch} {e : Env} {R : Room} {s : State} {m : MethodId} {args : Array Value} {below : List Frame} {meth : Method} {c : Code} {H : Heap} {locs : List Loc} {cells slots : Nat} {Q : State → Prop}
variable {mc ms : Nat} {free : Addr → Prop} {A0 A1 : Nat → Prop} {H0 : Heap} {a : Array Value} {ls : Array Slot} {st0 rest : List Value}
variable {Qc : Array Value → State → Outcome → State → Prop} {XC : String → State → State → Prop}
def vx_MQ (below : List Frame) (Qc : Array Value → State → Outcome → State → Prop) (XC : String → State → State → Prop) (a : Array Value) (s : State) (mc ms : Nat) (free : Addr → Prop) : State → Prop := fun t =>
  ∃ o, t.status = .running ∧ Ended t below o ∧ vx_Q Qc XC mc ms free a s o t
theorem vx_ret {g : JFrame} {mc ms : Nat} (k : W p l e R s m args below meth c H locs cells slots (MQ below Qc args s mc ms free) g) : W p l e R s m args below meth c H locs cells slots (vx_MQ below Qc XC args s mc ms free) g := by
  intro T hT X
  obtain ⟨t, a1, o, b1, b2, b3, b4⟩ := k T hT X
  exact ⟨t, a1, o, b1, b2, Or.inl ⟨b3, b4⟩⟩
theorem vx_widen {g : JFrame} {q : Addr} {k n : Nat} (h1 : cells ≤ k) (h2 : slots ≤ n) (kk : vx_W p l e R s m args below meth c H locs k n Q g q) : vx_W p l e R s m args below meth c H locs cells slots Q g q := fun T hT X => kk T hT (stand_widen X h1 h2)
theorem vx_out {pc : Nat} {E : String} {ce : Cell} {q : Addr} {mc ms : Nat} (hout : ∀ x ∈ c.exceptionTable.toList, covers x pc = false) (hlocks : meth.locks = false) (hcell : H[q]? = some ce) (hv : ce.vm = .none) (hcl : s.vm.findClass E = some ce.cls)
    (hx : ∀ t : State, t.heap = H → s.vm.Alike t.vm → XC E s t) (hf : ∀ z ∈ locs, free z.base) (hc : cells ≤ mc) (hs : slots ≤ ms) :
    vx_W p l e R s m args below meth c H locs cells slots (vx_MQ below Qc XC args s mc ms free) (F0 m pc ls rest) q := by
  intro T hT X
  obtain ⟨st1, hrun, hend, hW, hsm⟩ := X.leaveThrown q (g := F0 m pc ls rest) rfl rfl rfl hout hlocks
  have hcell9 : (T.setFrames (.throwing q :: below)).heap[q]? = some ce := by
    show T.heap[q]? = some ce
    rw [hT]; exact hcell
  exact ⟨_, st1, .threw q, hrun, hend, Or.inr ⟨q, rfl, E, ce, locs, hx _ hT hW.alike, hcell9, hv, hcl, hW, hsm.mono hc hs, hf⟩⟩
theorem vx_frame {U : State} {k n : Nat} (h : s.sameButNew ({ U with vm := s.vm } : State) locs k n) : s.heap.size ≤ U.heap.size ∧ ∀ q : Nat, q < s.heap.size → (∀ z ∈ locs, z.base ≠ q) → U.heap[q]? = s.heap[q]? := by
  obtain ⟨-, h2, -, -, -, h6⟩ := h
  refine ⟨h2, fun q hq hz => ?_⟩
  obtain ⟨c9, e1, e2, e3, e4⟩ := h6 q _ (Array.getElem?_eq_getElem hq)
  have hs : c9.slots = (s.heap[q]).slots := Array.ext_getElem? fun i => e4 i fun hm => hz _ hm rfl
  have h9 : c9 = s.heap[q] := by
    rw [hs] at e2
    exact e2
  have e5 : U.heap[q]? = some c9 := e1
  rw [e5, h9, Array.getElem?_eq_getElem hq]
def vx_no (w : Cond) : Bool := decide (w ≠ .isRef (.static Bundle.tN "UNASSIGNED_STACK" Bundle.steD)) && decide (w ≠ .isRef (.static Bundle.tN "SUPPRESSED_SENTINEL" Bundle.listD)) && decide (w ≠ .laysStatic Bundle.tN "UNASSIGNED_STACK" Bundle.steD) && decide (w ≠ .laysStatic Bundle.tN "SUPPRESSED_SENTINEL" Bundle.listD)
def vx_at0 (own : String) (ic : Nat) (X : String) (names : List String) : List Cond := (Bundle.ownAtoms0 own ic X names).filter vx_no
def vx_atS (own : String) (ic : Nat) (X : String) (names : List String) : List Cond := (Bundle.ownAtoms own ic X names).filter vx_no
def vx_ot (w : Cond) : Bool := w.onTables || goodWord w
theorem vx_ot_at {args a' : Array Value} {s U : State} {w : Cond} (hW : s.WarmedH U.vm) (hvm : s.vm = U.vm) (hg : vx_ot w = true) (h : w.before args s = true) : w.before a' U = true := by
  simp only [vx_ot, Bool.or_eq_true] at hg
  rcases hg with hg | hg
  · exact va_tabs hg hvm h
  · exact word_at hW (good_of_word hg) h
theorem vx_hat {args : Array Value} {s : State} {L B : List Cond} (h1 : ∀ w ∈ L.filter goodWord, w.before args s = true) (h2 : ∀ w ∈ L.filter (fun w => !goodWord w), w ∈ B) (h3 : ∀ w ∈ B, w.before args s = true) : ∀ w ∈ L, w.before args s = true := by
  intro w hw
  by_cases g : goodWord w = true
  · exact h1 w (List.mem_filter.mpr ⟨hw, g⟩)
  · refine h3 w (h2 w (List.mem_filter.mpr ⟨hw, ?_⟩))
    show (!goodWord w) = true
    cases hgw : goodWord w
    · rfl
    · exact absurd hgw g
theorem vx_c {args : Array Value} {s : State} {w : Cond} {B : List Cond} (h : w.before args s = true) (t : ∀ w ∈ B, w.before args s = true) : ∀ w' ∈ w :: B, w'.before args s = true := fun w' h' => (List.mem_cons.mp h').elim (fun e => by rw [e]; exact h) (t w')
theorem vx_n {args : Array Value} {s : State} : ∀ w ∈ ([] : List Cond), w.before args s = true := fun _ h => nomatch h
theorem vx_own {args : Array Value} {s : State} {L : List Cond} (h1 : ∀ w ∈ L.filter vx_no, w.before args s = true)
    (hU : (Cond.isRef (.static Bundle.tN "UNASSIGNED_STACK" Bundle.steD)).before args s = true) (hN : (Cond.isRef (.static Bundle.tN "SUPPRESSED_SENTINEL" Bundle.listD)).before args s = true)
    (lU : (Cond.laysStatic Bundle.tN "UNASSIGNED_STACK" Bundle.steD).before args s = true) (lN : (Cond.laysStatic Bundle.tN "SUPPRESSED_SENTINEL" Bundle.listD).before args s = true) : ∀ w ∈ L, w.before args s = true := by
  intro w hw
  by_cases e1 : w = .isRef (.static Bundle.tN "UNASSIGNED_STACK" Bundle.steD)
  · rw [e1]; exact hU
  · by_cases e2 : w = .isRef (.static Bundle.tN "SUPPRESSED_SENTINEL" Bundle.listD)
    · rw [e2]; exact hN
    · by_cases e3 : w = .laysStatic Bundle.tN "UNASSIGNED_STACK" Bundle.steD
      · rw [e3]; exact lU
      · by_cases e4 : w = .laysStatic Bundle.tN "SUPPRESSED_SENTINEL" Bundle.listD
        · rw [e4]; exact lN
        · exact h1 w (List.mem_filter.mpr ⟨hw, by unfold vx_no; rw [decide_eq_true e1, decide_eq_true e2, decide_eq_true e3, decide_eq_true e4]; rfl⟩)
def vx_L (C n d : String) (A : Nat → Prop) (U : State) (H : Heap) : Prop := ∃ (c : ClassId) (k : Class) (i : Nat) (f : Field) (a : Nat) (cell : Cell), U.vm.findClass C = some c ∧ U.fieldFound? C n d = some (c, k, i, f) ∧ f.isStatic = true ∧ k.statics = some a ∧ H[a]? = some cell ∧ cell.vm.isStatics = true ∧ cell.cls = c ∧ f.slot < cell.slots.size ∧ k.staticTypes[f.slot]? = some f.type ∧ ¬ A a
theorem vx_L.moved {C n d : String} {A : Nat → Prop} {u U : State} {H : Heap} (hvm : u.vm.Alike U.vm) (h : vx_L C n d A u H) : vx_L C n d A U H := by
  obtain ⟨c, k, i, f, a, cell, h1, h2, h3, h4, h5, h6, h7, h8, h9, h10⟩ := h
  obtain ⟨k', hi', he⟩ := State.fieldFound?_setVm hvm h2
  exact ⟨c, k', i, f, a, cell, by rw [hvm.findClass]; exact h1, hi', h3, by rw [he]; exact h4, h5, h6, h7, h8, by rw [he]; exact h9, h10⟩
theorem vx_L.kept {C n d : String} {A : Nat → Prop} {U : State} {H H1 : Heap} (h : vx_L C n d A U H) (hq : ∀ a : Nat, a < H.size → ¬ A a → H1[a]? = H[a]?) : vx_L C n d A U H1 := by
  obtain ⟨c, k, i, f, a, cell, h1, h2, h3, h4, h5, h6, h7, h8, h9, h10⟩ := h
  exact ⟨c, k, i, f, a, cell, h1, h2, h3, h4, by rw [hq a (Array.getElem?_eq_some_iff.mp h5).1 h10]; exact h5, h6, h7, h8, h9, h10⟩
theorem vx_L.narrow {C n d : String} {A B : Nat → Prop} {U : State} {H : Heap} (h : vx_L C n d A U H) (hAB : ∀ q, B q → A q) : vx_L C n d B U H := by
  obtain ⟨c, k, i, f, a, cell, h1, h2, h3, h4, h5, h6, h7, h8, h9, h10⟩ := h
  exact ⟨c, k, i, f, a, cell, h1, h2, h3, h4, h5, h6, h7, h8, h9, fun z => h10 (hAB _ z)⟩
theorem vx_L.word {C n d : String} {A : Nat → Prop} {s : State} {args : Array Value} (h : vx_L C n d A s s.heap) : (Cond.laysStatic C n d).before args s = true := by
  obtain ⟨c, k, i, f, a, cell, h1, h2, h3, h4, h5, h6, h7, h8, h9, -⟩ := h
  show (Cond.laysStatic C n d).holds args s none s [] = true
  exact Cond.laysStatic_of h1 h2 h3 h4 h5 h6 h7 h8 h9
def vx_Zq (C n d : String) (A : Nat → Prop) (U : State) (H : Heap) : Prop := va_Zq C n d A U H ∧ vx_L C n d A U H
theorem vx_Zq.moved {C n d : String} {A : Nat → Prop} {u U : State} {H : Heap} (hvm : u.vm.Alike U.vm) (h : vx_Zq C n d A u H) : vx_Zq C n d A U H := ⟨va_Zq.moved hvm h.1, vx_L.moved hvm h.2⟩
theorem vx_Zq.kept {C n d : String} {A : Nat → Prop} {U : State} {H H1 : Heap} (h : vx_Zq C n d A U H) (hq : ∀ a : Nat, a < H.size → ¬ A a → H1[a]? = H[a]?) : vx_Zq C n d A U H1 := ⟨va_Zq.kept h.1 hq, vx_L.kept h.2 hq⟩
theorem vx_Zq.narrow {C n d : String} {A B : Nat → Prop} {U : State} {H : Heap} (h : vx_Zq C n d A U H) (hAB : ∀ q, B q → A q) : vx_Zq C n d B U H := ⟨va_Zq.narrow h.1 hAB, vx_L.narrow h.2 hAB⟩
theorem vx_Zqof {args : Array Value} {s : State} {C n d : String} {A : Nat → Prop} (hl : (Cond.laysStatic C n d).before args s = true) (hini : (Cond.initialized C).before args s = true) (h : (Cond.isRef (.static C n d)).before args s = true) (hA : ∀ a : Nat, a < s.heap.size → ¬ A a) : vx_Zq C n d A s s.heap := by
  refine ⟨va_Zqof hl hini h hA, ?_⟩
  obtain ⟨c, k, i, f, a, cell, h1, h2, h3, h4, h5, h6, h7, h8, h9⟩ := Cond.laysStatic_spec hl
  exact ⟨c, k, i, f, a, cell, h1, h2, h3, h4, h5, h6, h7, h8, h9, hA a (Array.getElem?_eq_some_iff.mp h5).1⟩
theorem vx_isRef {C n d : String} {v : Value} {A : Nat → Prop} {s : State} {args : Array Value} (h : va_Z C n d v A s s.heap) (hv : v.isRef = true) : (Cond.isRef (.static C n d)).before args s = true := by
  obtain ⟨cf, kf, fi, f, a, cell, h1, h2, h3, h4, h5, h6, h7, -⟩ := h
  have he : (Term.static C n d).eval args s none [] s = some v := by
    simp [Term.eval, State.fieldNamed?, h1, h2, h4, h5, h6, h7]
  simp only [Cond.before, Cond.holds, Cond.value, he]
  cases v <;> simp_all [Value.isRef]
theorem vx_isRefq {C n d : String} {A : Nat → Prop} {s : State} {args : Array Value} (h : va_Zq C n d A s s.heap) : (Cond.isRef (.static C n d)).before args s = true := by
  rcases h with h | ⟨t, h⟩
  · exact vx_isRef h rfl
  · exact vx_isRef h rfl
theorem vx_rebase {T : State} (X : Stand p l e R s m args below meth c T locs cells slots) {R' : Room} (hf : R'.frames ≤ R.frames) (hl : R'.locals ≤ R.locals) (hc : cells + R'.cells ≤ R.cells) (hs : slots + R'.slots ≤ R.slots) :
    Stand p l e R' ((T.setVm s.vm).setFrames (.invoking m args :: below)) m args below meth c T [] 0 0 := by
  have htop : (T.setVm s.vm).topJava?.isSome := X.here.top
  have hF : ((T.setVm s.vm).setFrames (.invoking m args :: below)).frames = .invoking m args :: below := State.frames_setFrames _ (State.cur_lt_of_top htop)
  obtain ⟨g₀, hg0⟩ := Option.isSome_iff_exists.mp htop
  obtain ⟨r, hr⟩ := State.topJava?_eq_some.mp hg0
  have hl9 : e.platform.stackLimits (T.setVm s.vm).me = e.platform.stackLimits s.me := X.limits
  have hb9 : (T.setVm s.vm).me.stackBytes = s.me.stackBytes := X.bytes
  refine ⟨X.admits, X.cas, X.clock, hF, ?_, X.hears, X.method, X.code, X.here, X.tail, X.warmed, ?_, ?_, ?_⟩
  · have h := X.room
    have hU : ((T.setVm s.vm).setFrames (.invoking m args :: below)).localsInUse = s.localsInUse := by
      rw [State.localsInUse_invoking hF (meth := meth) (c := c) X.method X.code, State.localsInUse_invoking X.frames X.method X.code]
    simp only [State.hasRoom, Bool.and_eq_true, decide_eq_true_eq] at h ⊢
    obtain ⟨⟨⟨⟨h1, h2, h3, h4, h5, h6⟩, h7⟩, h8⟩, h9⟩ := h
    rw [X.frames, List.length_cons] at h2 h3
    have q1 := X.heapSize
    have q2 := X.used
    simp only [hF, hU, List.length_cons, State.stackLimits_setFrames, State.stackBytes_setFrames, hl9, hb9]
    refine ⟨⟨⟨⟨by omega, by omega, by omega, by omega, by omega, h6⟩, ?_⟩, ?_⟩, X.book⟩
    · show T.heap.size + R'.cells ≤ e.platform.maxCells
      omega
    · show T.slotsUsed + R'.slots ≤ e.platform.maxSlots
      omega
  · rw [State.stackLimits_setFrames]; rfl
  · rw [State.stackBytes_setFrames]; rfl
  · refine ⟨?_, Nat.le_refl _, Nat.le_refl _, ?_, ?_, fun a c9 h9 => ⟨c9, h9, rfl, rfl, fun _ _ => rfl⟩⟩
    · obtain ⟨t, ht, -⟩ := State.frames_cons hr
      show T.setVm s.vm = { ((T.setVm s.vm).setFrames (.invoking m args :: below)).setFrames (T.setVm s.vm).frames with heap := T.heap, slotsUsed := T.slotsUsed }
      rw [State.setFrames_setFrames, State.setFrames_self ht]
      rfl
    · show T.slotsUsed = T.slotsUsed + ((T.heap.toList.drop T.heap.size).map (·.slots.size)).sum
      rw [List.drop_eq_nil_of_le (Nat.le_of_eq Array.length_toList)]
      rfl
    · show ((T.heap.toList.drop T.heap.size).map (·.slots.size)).sum ≤ 0
      rw [List.drop_eq_nil_of_le (Nat.le_of_eq Array.length_toList)]
      exact Nat.le_refl _
theorem vx_throw0 {cc : ByteArray} {pc : Nat} (hexec : p.tables.exec = Jvm.exec) (hb : c.code = cc) (hl : l.stackTraces = false) {own cls : String} {names : List String} {ik ic mc ms : Nat} {A : Nat → Prop}
    (hown : s.vm.findClass own = some m.cls) (hcls : Bundle.fit cls = true) (hnames : ∀ n ∈ names, Bundle.fit n = true)
    (hk : (Cond.classLink own ik cls).before args s = true) (hini : (Cond.initialized cls).before args s = true) (hat : ∀ w ∈ vx_at0 own ic cls names, w.before args s = true)
    (hgood : ∀ w ∈ Cond.classLink own ik cls :: Cond.initialized cls :: vx_at0 own ic cls names, vx_ot w = true)
    (hU : vx_Zq Bundle.tN "UNASSIGNED_STACK" Bundle.steD A s s.heap) (hN : vx_Zq Bundle.tN "SUPPRESSED_SENTINEL" Bundle.listD A s s.heap) (hS : va_S A s.heap H locs) (hsize : ls.size = c.maxLocals)
    (d0 : decode cc pc = .ok (.new ik, 3)) (d3 : decode cc (pc + 3) = .ok (.dup, 1)) (d4 : decode cc (pc + 4) = .ok (.invokespecial ic, 3)) (d7 : decode cc (pc + 7) = .ok (.athrow, 1))
    (hout : ∀ x ∈ c.exceptionTable.toList, covers x (pc + 7) = false)
    (hRframes : names.length + 3 < R.frames) (hRlocals : (rest.map fun v => v.category).sum + (13 * (names.length + 1) + 42) ≤ R.locals) (hRcells : cells + 1 ≤ R.cells) (hRslots : slots + 6 ≤ R.slots) (hlocks : meth.locks = false)
    (hx : ∀ t : State, s.vm.Alike t.vm → H.size ≤ t.heap.size → (∀ q : Nat, q < H.size → t.heap[q]? = H[q]?) → XC cls s t)
    (hf : ∀ z ∈ locs, free z.base) (hc : cells + 1 ≤ mc) (hs : slots + 6 ≤ ms) :
    W p l e R s m args below meth c H locs cells slots (vx_MQ below Qc XC args s mc ms free) (F0 m pc ls rest) := by
  intro T hT X
  have htr : e.platform.stackTraces = false := (show e.platform.stackTraces = l.stackTraces by rw [X.admits.platform]).trans hl
  have Y := vx_rebase X (R' := { frames := R.frames, locals := R.locals, cells := 1, slots := 6 }) (Nat.le_refl _) (Nat.le_refl _) hRcells hRslots
  obtain ⟨s', hA⟩ : ∃ z, z = (T.setVm s.vm).setFrames (.invoking m args :: below) := ⟨_, rfl⟩
  rw [← hA] at Y
  have hvm : s'.vm = s.vm := by rw [hA]; rfl
  have hhp : s'.heap = H := by rw [hA]; exact hT
  have hW0 : s.WarmedH s'.vm := by rw [hvm]; exact State.WarmedH.refl s
  have hat' : ∀ w ∈ vx_at0 own ic cls names, w.before args s' = true := fun w hw => vx_ot_at hW0 hvm.symm (hgood w (List.mem_cons_of_mem _ (List.mem_cons_of_mem _ hw))) (hat w hw)
  have hk' : (Cond.classLink own ik cls).before args s' = true := vx_ot_at hW0 hvm.symm (hgood _ List.mem_cons_self) hk
  have hini' : (Cond.initialized cls).before args s' = true := vx_ot_at hW0 hvm.symm (hgood _ (List.mem_cons_of_mem _ List.mem_cons_self)) hini
  have hU' : vx_Zq Bundle.tN "UNASSIGNED_STACK" Bundle.steD A s' s'.heap := by rw [hhp]; exact vx_Zq.moved hW0.alike (hU.kept hS.2.1)
  have hN' : vx_Zq Bundle.tN "SUPPRESSED_SENTINEL" Bundle.listD A s' s'.heap := by rw [hhp]; exact vx_Zq.moved hW0.alike (hN.kept hS.2.1)
  have h : ∀ w ∈ Bundle.ownAtoms0 own ic cls names, w.before args s' = true := vx_own hat' (vx_isRefq hU'.1) (vx_isRefq hN'.1) hU'.2.word hN'.2.word
  have hown' : s'.vm.findClass own = some m.cls := by rw [hvm]; exact hown
  have hins : (Cond.instantiable cls 6).before args s' = true := h _ (by simp [Bundle.ownAtoms0])
  obtain ⟨vm₁, cX, kX, hfX, hkX, -, -, X₁, st1⟩ := Y.newCold hexec (own := own) (C := cls) (index := ik) (n := 6) hown' hk' hins hini'
    (g := F0 m pc ls rest) rfl (by rw [hb]; exact d0) (Nat.le_refl _) (Nat.le_refl _)
  generalize hT1 : (T.setVm vm₁).pushCell { cls := cX, slots := kX.instanceTypes.map defaultValue, vm := .none } = T1 at X₁ st1
  have hcat : (Value.ref T.heap.size).category = 1 := rfl
  have hcellA : T1.heap[T.heap.size]? = some (freshCell cX kX) := by rw [← hT1]; exact State.heap_pushCell_size _ _
  have d3' : decode c.code (pc + 3) = .ok (.dup, 1) := by rw [hb]; exact d3
  obtain ⟨U, hsteps, hrun, hend, hW, hsame, ce, hce, hO⟩ := X₁.ctorThrow0 hexec htr (own := own) (cls := cls) (names := names) (ic := ic) hown' hcls hnames h (fun x hx => nomatch hx) hfX hkX hcellA (by rw [hhp, hT]; exact Nat.le_refl _)
    (g := { method := m, pc := pc + 4, locals := ls, stack := .ref T.heap.size :: .ref T.heap.size :: rest, locked := none }) rfl hsize rfl rfl (rest := rest) rfl
    (by rw [hb]; exact d4) (by rw [hb]; exact d7) hout hRframes (by simp only [List.map_cons, List.sum_cons, hcat]; omega) hlocks
  obtain ⟨f1, f2⟩ := vx_frame hsame
  rw [hhp] at f1 f2
  have hWs : s.WarmedH U.vm := State.WarmedH.trans hW0 hW
  have hcl : s.vm.findClass cls = some ce.cls := by
    have h9 := hO.cls
    rw [hvm] at h9
    exact h9
  have hall : s.sameButNew ({ U with vm := s.vm } : State) locs mc ms := by
    subst hA
    obtain ⟨e1, e2⟩ := hsame
    rw [State.setFrames_setFrames] at e1
    have h2 : (T.setVm s.vm).sameButNew ({ U with vm := s.vm } : State) [] (0 + 1) (0 + 6) := ⟨e1, e2⟩
    have h3 := X.same.trans h2
    rw [List.append_nil] at h3
    exact h3.mono hc hs
  refine ⟨U, ?_, .threw T.heap.size, hrun, hend, Or.inr ⟨T.heap.size, rfl, cls, ce, locs, hx U hWs.alike f1 (fun q hq => f2 q hq (fun z hz => nomatch hz)), hce, hO.vm, hcl, hWs, hall, hf⟩⟩
  refine st1 _ ?_
  show Steps p.tables e below (T1.setTop { method := m, pc := pc + 3, locals := ls, stack := .ref T.heap.size :: rest, locked := none }) _
  jvm_step X₁.here [X₁.here.top, hexec, d3', Value.category]
  exact hsteps
theorem vx_throwS {cc : ByteArray} {pc : Nat} (hexec : p.tables.exec = Jvm.exec) (hb : c.code = cc) (hl : l.stackTraces = false) {own cls text : String} {names : List String} {ik is ic mc ms sa : Nat} {A : Nat → Prop}
    (hown : s.vm.findClass own = some m.cls) (hcls : Bundle.fit cls = true) (hnames : ∀ n ∈ names, Bundle.fit n = true)
    (hk : (Cond.classLink own ik cls).before args s = true) (hini : (Cond.initialized cls).before args s = true) (hstr : vk_R own is text sa s) (hat : ∀ w ∈ vx_atS own ic cls names, w.before args s = true)
    (hgood : ∀ w ∈ Cond.classLink own ik cls :: Cond.initialized cls :: vx_atS own ic cls names, vx_ot w = true)
    (hU : vx_Zq Bundle.tN "UNASSIGNED_STACK" Bundle.steD A s s.heap) (hN : vx_Zq Bundle.tN "SUPPRESSED_SENTINEL" Bundle.listD A s s.heap) (hS : va_S A s.heap H locs) (hsize : ls.size = c.maxLocals)
    (d0 : decode cc pc = .ok (.new ik, 3)) (d3 : decode cc (pc + 3) = .ok (.dup, 1)) (d4 : decode cc (pc + 4) = .ok (.ldc is, 2)) (d6 : decode cc (pc + 6) = .ok (.invokespecial ic, 3)) (d9 : decode cc (pc + 9) = .ok (.athrow, 1))
    (hout : ∀ x ∈ c.exceptionTable.toList, covers x (pc + 9) = false)
    (hRframes : names.length + 3 < R.frames) (hRlocals : (rest.map fun v => v.category).sum + (13 * (names.length + 1) + 43) ≤ R.locals) (hRcells : cells + 1 ≤ R.cells) (hRslots : slots + 6 ≤ R.slots) (hlocks : meth.locks = false)
    (hx : ∀ t : State, s.vm.Alike t.vm → H.size ≤ t.heap.size → (∀ q : Nat, q < H.size → t.heap[q]? = H[q]?) → XC cls s t)
    (hf : ∀ z ∈ locs, free z.base) (hc : cells + 1 ≤ mc) (hs : slots + 6 ≤ ms) :
    W p l e R s m args below meth c H locs cells slots (vx_MQ below Qc XC args s mc ms free) (F0 m pc ls rest) := by
  intro T hT X
  have htr : e.platform.stackTraces = false := (show e.platform.stackTraces = l.stackTraces by rw [X.admits.platform]).trans hl
  have Y := vx_rebase X (R' := { frames := R.frames, locals := R.locals, cells := 1, slots := 6 }) (Nat.le_refl _) (Nat.le_refl _) hRcells hRslots
  obtain ⟨s', hA⟩ : ∃ z, z = (T.setVm s.vm).setFrames (.invoking m args :: below) := ⟨_, rfl⟩
  rw [← hA] at Y
  have hvm : s'.vm = s.vm := by rw [hA]; rfl
  have hhp : s'.heap = H := by rw [hA]; exact hT
  have hW0 : s.WarmedH s'.vm := by rw [hvm]; exact State.WarmedH.refl s
  have hat' : ∀ w ∈ vx_atS own ic cls names, w.before args s' = true := fun w hw => vx_ot_at hW0 hvm.symm (hgood w (List.mem_cons_of_mem _ (List.mem_cons_of_mem _ hw))) (hat w hw)
  have hk' : (Cond.classLink own ik cls).before args s' = true := vx_ot_at hW0 hvm.symm (hgood _ List.mem_cons_self) hk
  have hini' : (Cond.initialized cls).before args s' = true := vx_ot_at hW0 hvm.symm (hgood _ (List.mem_cons_of_mem _ List.mem_cons_self)) hini
  have hU' : vx_Zq Bundle.tN "UNASSIGNED_STACK" Bundle.steD A s' s'.heap := by rw [hhp]; exact vx_Zq.moved hW0.alike (hU.kept hS.2.1)
  have hN' : vx_Zq Bundle.tN "SUPPRESSED_SENTINEL" Bundle.listD A s' s'.heap := by rw [hhp]; exact vx_Zq.moved hW0.alike (hN.kept hS.2.1)
  have h : ∀ w ∈ Bundle.ownAtoms own ic cls names, w.before args s' = true := vx_own hat' (vx_isRefq hU'.1) (vx_isRefq hN'.1) hU'.2.word hN'.2.word
  have hown' : s'.vm.findClass own = some m.cls := by rw [hvm]; exact hown
  have hins : (Cond.instantiable cls 6).before args s' = true := h _ (by simp [Bundle.ownAtoms])
  obtain ⟨vm₁, cX, kX, hfX, hkX, -, -, X₁, st1⟩ := Y.newCold hexec (own := own) (C := cls) (index := ik) (n := 6) hown' hk' hins hini'
    (g := F0 m pc ls rest) rfl (by rw [hb]; exact d0) (Nat.le_refl _) (Nat.le_refl _)
  generalize hT1 : (T.setVm vm₁).pushCell { cls := cX, slots := kX.instanceTypes.map defaultValue, vm := .none } = T1 at X₁ st1
  have hcat : (Value.ref T.heap.size).category = 1 := rfl
  have hcellA : T1.heap[T.heap.size]? = some (freshCell cX kX) := by rw [← hT1]; exact State.heap_pushCell_size _ _
  have d3' : decode c.code (pc + 3) = .ok (.dup, 1) := by rw [hb]; exact d3
  have d4' : decode c.code (pc + 4) = .ok (.ldc is, 2) := by rw [hb]; exact d4
  have hstr' : vk_R own is text sa s' := vk_R.warm hW0 hstr
  obtain ⟨U, hsteps, hrun, hend, hW, hsame, ce, hce, hO⟩ := X₁.ctorThrowS hexec htr (own := own) (cls := cls) (names := names) (ic := ic) hown' hcls hnames h (fun x hx => nomatch hx) hfX hkX hcellA (by rw [hhp, hT]; exact Nat.le_refl _) (msg := .ref sa) rfl
    (g := { method := m, pc := pc + 6, locals := ls, stack := .ref sa :: .ref T.heap.size :: .ref T.heap.size :: rest, locked := none }) rfl hsize rfl rfl (rest := rest) rfl
    (by rw [hb]; exact d6) (by rw [hb]; exact d9) hout hRframes (by simp only [List.map_cons, List.sum_cons, hcat]; omega) hlocks
  obtain ⟨f1, f2⟩ := vx_frame hsame
  rw [hhp] at f1 f2
  have hWs : s.WarmedH U.vm := State.WarmedH.trans hW0 hW
  have hcl : s.vm.findClass cls = some ce.cls := by
    have h9 := hO.cls
    rw [hvm] at h9
    exact h9
  have hall : s.sameButNew ({ U with vm := s.vm } : State) locs mc ms := by
    subst hA
    obtain ⟨e1, e2⟩ := hsame
    rw [State.setFrames_setFrames] at e1
    have h2 : (T.setVm s.vm).sameButNew ({ U with vm := s.vm } : State) [] (0 + 1) (0 + 6) := ⟨e1, e2⟩
    have h3 := X.same.trans h2
    rw [List.append_nil] at h3
    exact h3.mono hc hs
  refine ⟨U, ?_, .threw T.heap.size, hrun, hend, Or.inr ⟨T.heap.size, rfl, cls, ce, locs, hx U hWs.alike f1 (fun q hq => f2 q hq (fun z hz => nomatch hz)), hce, hO.vm, hcl, hWs, hall, hf⟩⟩
  refine st1 _ ?_
  show Steps p.tables e below (T1.setTop { method := m, pc := pc + 3, locals := ls, stack := .ref T.heap.size :: rest, locked := none }) _
  jvm_step X₁.here [X₁.here.top, hexec, d3', Value.category]
  exact X₁.ldcString hexec (own := own) (text := text) (index := is) (a := sa) hown' hstr'.1 hstr'.2
    (g := { method := m, pc := pc + 4, locals := ls, stack := .ref T.heap.size :: .ref T.heap.size :: rest, locked := none }) rfl d4' _ hsteps
theorem vx_throwSW {cc : ByteArray} {pc : Nat} (hexec : p.tables.exec = Jvm.exec) (hb : c.code = cc) (hl : l.stackTraces = false) {own cls text : String} {names : List String} {ik is ic mc ms sa : Nat} {A : Nat → Prop}
    (hown : s.vm.findClass own = some m.cls) (hcls : Bundle.fit cls = true) (hnames : ∀ n ∈ names, Bundle.fit n = true)
    (hk : (Cond.classLink own ik cls).before args s = true) (hini : (Cond.initialized cls).before args s = true) (hstr : vk_R own is text sa s) (hat : ∀ w ∈ vx_atS own ic cls names, w.before args s = true)
    (hgood : ∀ w ∈ Cond.classLink own ik cls :: Cond.initialized cls :: vx_atS own ic cls names, vx_ot w = true)
    (hU : vx_Zq Bundle.tN "UNASSIGNED_STACK" Bundle.steD A s s.heap) (hN : vx_Zq Bundle.tN "SUPPRESSED_SENTINEL" Bundle.listD A s s.heap) (hS : va_S A s.heap H locs) (hsize : ls.size = c.maxLocals)
    (d0 : decode cc pc = .ok (.new ik, 3)) (d3 : decode cc (pc + 3) = .ok (.dup, 1)) (d4 : decode cc (pc + 4) = .ok (.ldc_w is, 3)) (d7 : decode cc (pc + 7) = .ok (.invokespecial ic, 3)) (d10 : decode cc (pc + 10) = .ok (.athrow, 1))
    (hout : ∀ x ∈ c.exceptionTable.toList, covers x (pc + 10) = false)
    (hRframes : names.length + 3 < R.frames) (hRlocals : (rest.map fun v => v.category).sum + (13 * (names.length + 1) + 43) ≤ R.locals) (hRcells : cells + 1 ≤ R.cells) (hRslots : slots + 6 ≤ R.slots) (hlocks : meth.locks = false)
    (hx : ∀ t : State, s.vm.Alike t.vm → H.size ≤ t.heap.size → (∀ q : Nat, q < H.size → t.heap[q]? = H[q]?) → XC cls s t)
    (hf : ∀ z ∈ locs, free z.base) (hc : cells + 1 ≤ mc) (hs : slots + 6 ≤ ms) :
    W p l e R s m args below meth c H locs cells slots (vx_MQ below Qc XC args s mc ms free) (F0 m pc ls rest) := by
  intro T hT X
  have htr : e.platform.stackTraces = false := (show e.platform.stackTraces = l.stackTraces by rw [X.admits.platform]).trans hl
  have Y := vx_rebase X (R' := { frames := R.frames, locals := R.locals, cells := 1, slots := 6 }) (Nat.le_refl _) (Nat.le_refl _) hRcells hRslots
  obtain ⟨s', hA⟩ : ∃ z, z = (T.setVm s.vm).setFrames (.invoking m args :: below) := ⟨_, rfl⟩
  rw [← hA] at Y
  have hvm : s'.vm = s.vm := by rw [hA]; rfl
  have hhp : s'.heap = H := by rw [hA]; exact hT
  have hW0 : s.WarmedH s'.vm := by rw [hvm]; exact State.WarmedH.refl s
  have hat' : ∀ w ∈ vx_atS own ic cls names, w.before args s' = true := fun w hw => vx_ot_at hW0 hvm.symm (hgood w (List.mem_cons_of_mem _ (List.mem_cons_of_mem _ hw))) (hat w hw)
  have hk' : (Cond.classLink own ik cls).before args s' = true := vx_ot_at hW0 hvm.symm (hgood _ List.mem_cons_self) hk
  have hini' : (Cond.initialized cls).before args s' = true := vx_ot_at hW0 hvm.symm (hgood _ (List.mem_cons_of_mem _ List.mem_cons_self)) hini
  have hU' : vx_Zq Bundle.tN "UNASSIGNED_STACK" Bundle.steD A s' s'.heap := by rw [hhp]; exact vx_Zq.moved hW0.alike (hU.kept hS.2.1)
  have hN' : vx_Zq Bundle.tN "SUPPRESSED_SENTINEL" Bundle.listD A s' s'.heap := by rw [hhp]; exact vx_Zq.moved hW0.alike (hN.kept hS.2.1)
  have h : ∀ w ∈ Bundle.ownAtoms own ic cls names, w.before args s' = true := vx_own hat' (vx_isRefq hU'.1) (vx_isRefq hN'.1) hU'.2.word hN'.2.word
  have hown' : s'.vm.findClass own = some m.cls := by rw [hvm]; exact hown
  have hins : (Cond.instantiable cls 6).before args s' = true := h _ (by simp [Bundle.ownAtoms])
  obtain ⟨vm₁, cX, kX, hfX, hkX, -, -, X₁, st1⟩ := Y.newCold hexec (own := own) (C := cls) (index := ik) (n := 6) hown' hk' hins hini'
    (g := F0 m pc ls rest) rfl (by rw [hb]; exact d0) (Nat.le_refl _) (Nat.le_refl _)
  generalize hT1 : (T.setVm vm₁).pushCell { cls := cX, slots := kX.instanceTypes.map defaultValue, vm := .none } = T1 at X₁ st1
  have hcat : (Value.ref T.heap.size).category = 1 := rfl
  have hcellA : T1.heap[T.heap.size]? = some (freshCell cX kX) := by rw [← hT1]; exact State.heap_pushCell_size _ _
  have d3' : decode c.code (pc + 3) = .ok (.dup, 1) := by rw [hb]; exact d3
  have d4' : decode c.code (pc + 4) = .ok (.ldc_w is, 3) := by rw [hb]; exact d4
  have hstr' : vk_R own is text sa s' := vk_R.warm hW0 hstr
  obtain ⟨U, hsteps, hrun, hend, hW, hsame, ce, hce, hO⟩ := X₁.ctorThrowS hexec htr (own := own) (cls := cls) (names := names) (ic := ic) hown' hcls hnames h (fun x hx => nomatch hx) hfX hkX hcellA (by rw [hhp, hT]; exact Nat.le_refl _) (msg := .ref sa) rfl
    (g := { method := m, pc := pc + 7, locals := ls, stack := .ref sa :: .ref T.heap.size :: .ref T.heap.size :: rest, locked := none }) rfl hsize rfl rfl (rest := rest) rfl
    (by rw [hb]; exact d7) (by rw [hb]; exact d10) hout hRframes (by simp only [List.map_cons, List.sum_cons, hcat]; omega) hlocks
  obtain ⟨f1, f2⟩ := vx_frame hsame
  rw [hhp] at f1 f2
  have hWs : s.WarmedH U.vm := State.WarmedH.trans hW0 hW
  have hcl : s.vm.findClass cls = some ce.cls := by
    have h9 := hO.cls
    rw [hvm] at h9
    exact h9
  have hall : s.sameButNew ({ U with vm := s.vm } : State) locs mc ms := by
    subst hA
    obtain ⟨e1, e2⟩ := hsame
    rw [State.setFrames_setFrames] at e1
    have h2 : (T.setVm s.vm).sameButNew ({ U with vm := s.vm } : State) [] (0 + 1) (0 + 6) := ⟨e1, e2⟩
    have h3 := X.same.trans h2
    rw [List.append_nil] at h3
    exact h3.mono hc hs
  refine ⟨U, ?_, .threw T.heap.size, hrun, hend, Or.inr ⟨T.heap.size, rfl, cls, ce, locs, hx U hWs.alike f1 (fun q hq => f2 q hq (fun z hz => nomatch hz)), hce, hO.vm, hcl, hWs, hall, hf⟩⟩
  refine st1 _ ?_
  show Steps p.tables e below (T1.setTop { method := m, pc := pc + 3, locals := ls, stack := .ref T.heap.size :: rest, locked := none }) _
  jvm_step X₁.here [X₁.here.top, hexec, d3', Value.category]
  exact X₁.ldcStringW hexec (own := own) (text := text) (index := is) (a := sa) hown' hstr'.1 hstr'.2
    (g := { method := m, pc := pc + 4, locals := ls, stack := .ref T.heap.size :: .ref T.heap.size :: rest, locked := none }) rfl d4' _ hsteps
end Ends
section Bodies
variable {l : Launch}
theorem vx_ofW {y : MethodName} {ws ws' : List Cond} {rm : Room} {Pc : Array Value → State → Prop} {Qc : Array Value → State → Outcome → State → Prop} {XC : String → State → State → Prop} {mc ms : Nat} {free : Addr → Prop} {cc : ByteArray} {maxL : Nat} {ret : Option FieldType}
    (hy : plainName y.cls = true) (hw : ws = Cond.code y cc maxL ret :: ws')
    (body : ∀ p e s m args below meth c s₁, BodyLoose p l y (headSpec ws rm) cc maxL ret e s m args below meth c s₁ → c.maxLocals = maxL → (∀ x ∈ c.exceptionTable.toList, False) → Pc args s →
      W p l e (headSpec ws rm).room s m args below meth c s.heap [] 0 0 (vx_MQ below Qc XC args s mc ms free) (entryFrame m args maxL)) : vx_Met l y ws rm Pc Qc XC mc ms free := by
  refine MetFree.of_bodyS (code := cc) (maxLocals := maxL) (ret := ret) hy ?_ ?_
  · intro args s m h hn
    obtain ⟨meth, c, h1, h2, h3, h4, h5, h6, -, -⟩ := Cond.code_spec hn (atoms_spec (ws := ws) h _ (by rw [hw]; exact List.mem_cons_self))
    exact ⟨meth, c, h1, h2, h3, h4, h5, h6⟩
  · intro p e s m args below meth c s₁ B hml hP _
    have hh0 : s₁.heap = s.heap := by rw [B.state]; rfl
    have ht : ∀ x ∈ c.exceptionTable.toList, False := by
      obtain ⟨meth9, c9, h1, h2, -, -, -, -, h7, -⟩ := Cond.code_spec B.named (atoms_spec (ws := ws) B.pre _ (by rw [hw]; exact List.mem_cons_self))
      cases Option.some.inj (h1.symm.trans B.method)
      cases Option.some.inj (h2.symm.trans (Stand.of_body B).code)
      intro x hx
      rw [Array.isEmpty_iff.mp h7] at hx
      cases hx
    obtain ⟨t, a1, o, b1, b2, b3⟩ := body p e s m args below meth c s₁ B hml ht hP s₁ hh0 (Stand.of_body B)
    exact ⟨t, o, a1, b1, b2, b3⟩
theorem vx_table {p : Program} {x y : MethodName} {S : Spec} {cc bytes : ByteArray} {maxL maxL' : Nat} {ret ret' : Option FieldType} {e : Env} {s s₁ : State} {m : MethodId} {args : Array Value} {below : List Frame} {meth : Method} {c : Code} {hh : List (Nat × Nat × Nat × Nat)}
    (B : BodyLoose p l y S cc maxL ret e s m args below meth c s₁) (h : (Cond.codeWith y bytes maxL' ret' hh).before args s = true) : c.exceptionTable.toList = tableOf hh := by
  obtain ⟨m9, meth9, c9, hn9, h1, h2, -, -, h6, -⟩ := Cond.codeWith_spec h
  cases Option.some.inj (hn9.symm.trans B.named)
  cases Option.some.inj (h1.symm.trans B.method)
  cases Option.some.inj (h2.symm.trans (Stand.of_body B).code)
  rw [← h6, table_eq]
end Bodies
end VXA
/-! ===== END ===== -/
/-! ===== BEGIN a static call of a method with an exception table ===== -/
section VXS
variable {p : Program} {l : Launch} {e : Env} {R : Room} {s : State} {m : MethodId} {args : Array Value} {below : List Frame} {meth : Method} {c : Code} {T : State} {H : Heap} {locs : List Loc} {cells slots : Nat}
abbrev vx_CSW (R : Room) (s : State) (args : Array Value) (own : String) (index : Nat) (y : MethodName) (bytes : ByteArray) (maxL : Nat) (ret : Option FieldType) (hh : List (Nat × Nat × Nat × Nat)) (ws : List Cond) (rm : Room) (mc ms n : Nat) : Prop :=
  (rm.cells = mc ∧ rm.slots = ms ∧ rm.frames + 1 ≤ R.frames ∧ 8 + (maxL + 11) + rm.locals ≤ R.locals ∧ (∀ w ∈ ws, ∀ (a' : Array Value) (U : State), s.WarmedH U.vm → w.before a' U = true) ∧ Cond.codeWith y bytes maxL ret hh ∈ ws) ∧
  (Cond.codeWith y bytes maxL ret hh).before args s = true ∧ (Cond.initialized y.cls).before args s = true ∧ (y.cls ≠ "java/lang/invoke/MethodHandle" ∧ y.cls ≠ "java/lang/invoke/VarHandle") ∧
  (∀ sig, parseMethodDescriptor y.desc = some sig → n = sig.parameters.length) ∧ (Cond.methodLink own index y).before args s = true ∧ (Cond.static y).before args s = true
theorem vx_cwSW {own : String} {index maxL mc ms : Nat} {y : MethodName} {bytes : ByteArray} {ret : Option FieldType} {hh : List (Nat × Nat × Nat × Nat)} {Ts ws ws' : List Cond} {rm : Room} (n : Nat) (ht : ∀ w ∈ Ts, w.before args s = true) (hT : GoodIn Ts (va_wsS own index y ws)) (hw : ws = Cond.codeWith y bytes maxL ret hh :: ws') (hrc : rm.cells = mc) (hrs : rm.slots = ms)
    (hd : y.cls ≠ "java/lang/invoke/MethodHandle" ∧ y.cls ≠ "java/lang/invoke/VarHandle" ∧ (parseMethodDescriptor y.desc).map (fun d => d.parameters.length) = some n) (hR : rm.frames + 1 ≤ R.frames ∧ 8 + (maxL + 11) + rm.locals ≤ R.locals) :
    vx_CSW R s args own index y bytes maxL ret hh ws rm mc ms n := by
  have ok : ∀ w ∈ va_wsS own index y ws, w.before args s = true := fun w h => ht w (hT w h).1
  have hG : GoodIn Ts ws := fun w h => hT w (by unfold va_wsS; exact List.mem_append_right _ h)
  have hc : Cond.codeWith y bytes maxL ret hh ∈ ws := by rw [hw]; exact List.mem_cons_self
  refine ⟨⟨hrc, hrs, hR.1, hR.2, pay_in ht hG, hc⟩, ht _ (hG _ hc).1, ok _ (by simp [va_wsS]), ⟨hd.1, hd.2.1⟩, fun sig h => ?_, ok _ (by simp [va_wsS]), ok _ (by simp [va_wsS])⟩
  have h2 := hd.2.2
  rw [h] at h2
  exact (Option.some.inj h2).symm
theorem vx_callSW (X : Stand p l e R s m args below meth c T locs cells slots) (hexec : p.tables.exec = Jvm.exec) {own : String} {index : Nat} {y : MethodName} {bytes : ByteArray} {maxL : Nat} {ret : Option FieldType} {hh : List (Nat × Nat × Nat × Nat)}
    (hown : s.vm.findClass own = some m.cls) (hlink : (Cond.methodLink own index y).before args s = true) (hstat : (Cond.static y).before args s = true) (hinit : (Cond.initialized y.cls).before args s = true)
    (hcode : (Cond.codeWith y bytes maxL ret hh).before args s = true) (hy : y.cls ≠ "java/lang/invoke/MethodHandle" ∧ y.cls ≠ "java/lang/invoke/VarHandle")
    {W9 : Nat} {Pre : Pt → Array Value → Prop} {Post : Pt → Array Value → Option Value → Pt → Prop} (hK : Back l R p e below s args y 3 W9 Pre Post)
    {g : JFrame} (hg : g.method = m) (hsize : g.locals.size = c.maxLocals) {argsL rest : List Value} (hlen : ∀ sig, parseMethodDescriptor y.desc = some sig → argsL.length = sig.parameters.length)
    (hstack : g.stack = argsL.reverse ++ rest) (hW : 2 * g.monitorRoom + (rest.map fun v => v.category).sum ≤ W9) (hdg : decode c.code g.pc = .ok (.invokestatic index, 3))
    (hpre : ∀ vm₁, s.WarmedH vm₁ → Pre ⟨T.setVm vm₁, locs, cells, slots⟩ argsL.toArray) :
    ∃ (v : Option Value) (vm₁ : Vm) (B : Pt), s.WarmedH vm₁ ∧ Stand p l e R s m args below meth c B.U B.locs B.cells B.slots ∧ Post ⟨T.setVm vm₁, locs, cells, slots⟩ argsL.toArray v B ∧
      ∀ target, Steps p.tables e below (B.U.setTop { g with pc := g.pc + 3, stack := v.toList ++ rest }) target → Steps p.tables e below (T.setTop g) target := by
  obtain ⟨mk, methM, cM, hnamed, hmethM, -, -, -, -, -, -, hsigM⟩ := Cond.codeWith_spec hcode
  have hstatic : methM.isStatic = true := Cond.static_spec hnamed hmethM hstat
  obtain ⟨kP, hkP, -⟩ := className_of_methodNamed hnamed
  have hinitP : kP.init = .initialized := Cond.initialized_spec (findClass_of_methodNamed hnamed) hkP hinit
  obtain ⟨vm₁, X₁, hstep₁⟩ := X.invokestatic hexec hown hlink hnamed hmethM hstatic hkP hinitP hy (g := g) hg (argsL := argsL) (rest := rest) (hlen _ hsigM) hstack hdg
  obtain ⟨v, B, X', hpost, hsteps⟩ := hK m meth c ⟨T.setVm vm₁, locs, cells, slots⟩ { g with stack := rest } (.invokestatic index) mk argsL.toArray X₁ hg hsize hdg hW (X₁.named hnamed) (hpre vm₁ X₁.warmed)
  exact ⟨v, vm₁, B, X₁.warmed, X', hpost, fun target h => hstep₁ _ fun acts => by rw [doInvoke_state]; exact hsteps.trans h⟩
theorem vx_runSW {y : MethodName} {bytes cc : ByteArray} {maxL nL mc ms n index : Nat} {ret : Option FieldType} {hh : List (Nat × Nat × Nat × Nat)} {ws : List Cond} {rm : Room} {Pc : Array Value → State → Prop} {Qc : Array Value → State → Outcome → State → Prop} {free : Addr → Prop} {Ts : List Cond} {own : String} {As rest : List Value} {g : JFrame}
    (S : CallFix p m c cc nL s args Ts own) (hM : Met l y ws rm Pc Qc mc ms free) (cw : vx_CSW R s args own index y bytes maxL ret hh ws rm mc ms n) (hp : PreS s H Pc As)
    (hg : g.method = m) (hn : As.length = n) (hsize : g.locals.size = nL) (hstack : g.stack = As.reverse ++ rest) (hW : 2 * g.monitorRoom + (rest.map fun v => v.category).sum ≤ 8) (hdg : decode cc g.pc = .ok (.invokestatic index, 3)) (hf : cells + mc ≤ R.cells ∧ slots + ms ≤ R.slots) :
    va_Run p l e R s m args below meth c H locs cells slots mc ms g rest (Qc As.toArray) (free) := by
  obtain ⟨⟨hrc, hrs, hfr, hlo, hws, hcw⟩, hcode, hini, hy, hlen, hl, hstt⟩ := cw
  have hK : Back l R p e below s args y 3 8 (PreOf R mc ms Pc) (PostOf Qc mc ms free) := va_backW (hh := hh) (bytes := bytes) (maxL := maxL) (ret := ret) hM hp.1 hrc hrs hfr hlo hws hcw (fun a' U hW => word_at hW (Or.inl (by first | rfl | simp [Cond.onTables, Cond.keeps, Cond.steady])) hini)
  obtain ⟨hx, hb, hml, ho, -⟩ := S
  intro T hT X
  obtain ⟨v, vm₁, ⟨U', l2, c2, s2⟩, hW₁, X', ⟨g', mk, t, L, e1, e2, hq, h1, hL, h2, h3⟩, st⟩ := vx_callSW X hx (hh := hh) (bytes := bytes) (maxL := maxL) (ret := ret) ho hl hstt hini hcode hy hK hg (hsize.trans hml.symm) (argsL := As) (rest := rest) (fun sig h => hn.trans (hlen sig h)) hstack hW (by rw [hb]; exact hdg)
    (fun vm₁ hW₁ => ⟨hf.1, hf.2, hp.2 (T.setVm vm₁) hT hW₁⟩)
  dsimp only [Pt.U, Pt.locs, Pt.cells, Pt.slots] at X' e1 e2 h1 h2 h3 st
  subst h1; subst h2; subst h3
  exact ⟨v, (T.setVm vm₁).calling g' mk As.toArray, t, U', L, hT, X', hL, e1, e2, hq, st⟩
theorem vx_lt {D : va_G} {cl : List vw_C} {ws : va_W} {H1 : Heap} (h : va_P D cl ws H1) {k : Nat} {q : Nat × va_E} (hk : ws[k]? = some q) : q.1 < H1.size := (h k q hk).lt
end VXS
/-! ===== END ===== -/
/-! ===== BEGIN methods with a table of their own: called by a name, returning or throwing ===== -/
section VXH
/-! vx_backW, vx_callVX, vx_callSX, vx_callVW, vx_runVW, vx_runVX, vx_runSX, vx_ofWH follow the same proofs as their sisters above (Free/Laws.lean, Shelf42/LK1.lean); vx_outP calls Shelf42/NT130.lean (outThrough). -/
section
variable {l : Launch} {R : Room} {p : Program} {e : Env} {below : List Frame} {s : State} {sargs : Array Value} {y : MethodName} {len W9 : Nat}
theorem vx_backW {ws : List Cond} {rm : Room} {Pc : Array Value → State → Prop} {Qc : Array Value → State → Outcome → State → Prop} {XC : String → State → State → Prop} {mc ms : Nat} {free : Addr → Prop} {bytes : ByteArray} {maxL : Nat} {ret : Option FieldType} {hh : List (Nat × Nat × Nat × Nat)}
    (hM : vx_Met l y ws rm Pc Qc XC mc ms free) (hblind : FrameBlind Pc) (hrc : rm.cells = mc) (hrs : rm.slots = ms)
    (hframes : rm.frames + 1 ≤ R.frames) (hlocals : W9 + (maxL + 11) + rm.locals ≤ R.locals)
    (hws : ∀ w ∈ ws, ∀ a' U, s.WarmedH U.vm → w.before a' U = true) (hcode : Cond.codeWith y bytes maxL ret hh ∈ ws) (hinit : ∀ a' U, s.WarmedH U.vm → (Cond.initialized y.cls).before a' U = true) :
    vx_Back l R p e below s sargs y len W9 (PreOf R mc ms Pc) (PostOf Qc mc ms free) (vx_Post XC mc ms free) := by
  intro m meth c A g ig mk a X hg hsize hdg hW hn hp
  have h1 : (headSpec ws rm).pre.before a A.U = true := atoms_intro fun w hw => hws w hw _ _ X.warmed
  have h2 : (Cond.codeWith y bytes maxL ret hh).before a A.U = true := hws _ hcode _ _ X.warmed
  have h3 : (Cond.initialized y.cls).before a A.U = true := hinit _ _ X.warmed
  have h4 : A.cells + (headSpec ws rm).room.cells ≤ R.cells := by rw [show (headSpec ws rm).room.cells = mc from hrc]; exact hp.1
  have h5 : A.slots + (headSpec ws rm).room.slots ≤ R.slots := by rw [show (headSpec ws rm).room.slots = ms from hrs]; exact hp.2.1
  have hPc : Pc a (A.U.calling g mk a) := hblind _ _ _ _ hp.2.2
  obtain ⟨U, Ls, c0, s0⟩ := A
  dsimp only [Pt.U, Pt.locs, Pt.cells, Pt.slots] at h1 h2 h3 h4 h5 X hn hPc ⊢
  obtain ⟨m9, methY, cY, hn9, hmY, hcY, -, hlY, -⟩ := Cond.codeWith_spec h2
  cases Option.some.inj (hn9.symm.trans hn)
  obtain ⟨kY, hkY, -⟩ := className_of_methodNamed hn
  have hinitY : kY.init = .initialized := Cond.initialized_spec (findClass_of_methodNamed hn) hkY h3
  have h : At U g.method c below := by rw [hg]; exact X.here
  have hlocals9 : W9 + (maxL + 11) + (headSpec ws rm).room.locals ≤ R.locals := hlocals
  have happ : (headSpec ws rm).appliesLoose y e.platform (U.calling g mk a) = true :=
    Spec.appliesLoose_calling (g := g) h hdg hn hkY hinitY
      (X.room_calling (g := g) (R' := (headSpec ws rm).room) hsize hmY hcY hframes (by rw [hlY]; omega) h4 h5) h1
  obtain ⟨mid, hmid⟩ := h.above
  have hfr : (U.setTop g).frames = (.java g :: mid) ++ below := by rw [State.frames_setTop' g h.top, hmid]; rfl
  obtain ⟨o, s₂, hsteps, -, hend, hq⟩ := Steps.callFree hM p X.admits X.cas X.clock (acts := []) hfr happ hPc trivial
  have hq' : vx_Q Qc XC mc ms free a (U.calling g mk a) o s₂ := hq
  rw [State.frames_setTop' g h.top] at hend
  obtain ⟨g₀, hg0⟩ := Option.isSome_iff_exists.mp h.top
  obtain ⟨r, hr⟩ := State.topJava?_eq_some.mp hg0
  have hr' : (({ U with heap := s₂.heap, slotsUsed := s₂.slotsUsed } : State).setVm s₂.vm).frames = .java g₀ :: r := hr
  rcases hq' with ⟨hqc, L, hfe, hL⟩ | ⟨q, rfl, E, ce, L, hx, hce, hcv, hcl, hW₂, hsm, hL⟩
  · obtain ⟨⟨v, rfl⟩, hW₂, e2, q2, q3, q4, q5, q6⟩ := id hfe
    have e3 : s₂ = ({ (U.calling g mk a).setFrames s₂.frames with heap := s₂.heap, slotsUsed := s₂.slotsUsed } : State).setVm s₂.vm := by
      have : s₂ = ({ s₂ with vm := (U.calling g mk a).vm } : State).setVm s₂.vm := rfl
      rw [e2] at this
      exact this
    obtain ⟨c₂, i₂, len₂, hc₂, hd₂, hf₂⟩ := hend
    have hW' : U.WarmedH s₂.vm := hW₂
    have hcc : c₂ = c := by
      have h1 : s₂.code? g.method = U.code? g.method := by
        rw [State.code?_eq, State.code?_eq, hW'.alike.method?]
      exact Option.some.inj (hc₂.symm.trans (h1.trans h.code))
    subst hcc
    have hlen : len₂ = len := by rw [hdg] at hd₂; cases hd₂; rfl
    subst hlen
    have hs₂ : s₂ = (({ U with heap := s₂.heap, slotsUsed := s₂.slotsUsed } : State).setVm s₂.vm).setTop { g with pc := g.pc + len₂, stack := v.toList ++ g.stack } := by
      refine e3.trans ?_
      rw [hf₂, State.calling_eq h.top, State.setFrames_setFrames, State.setTop_of_frames _ hr', hr]
      rfl
    have hsame : U.sameButNew ({ U with heap := s₂.heap, slotsUsed := s₂.slotsUsed } : State) L mc ms := by
      refine ⟨?_, q2, q3, q4, q5, q6⟩
      obtain ⟨t, ht, -⟩ := State.frames_cons hr
      show ({ U with heap := s₂.heap, slotsUsed := s₂.slotsUsed } : State) = { U.setFrames U.frames with heap := s₂.heap, slotsUsed := s₂.slotsUsed }
      rw [State.setFrames_self ht]
    subst hg
    refine Or.inl ⟨v, ⟨(({ U with heap := s₂.heap, slotsUsed := s₂.slotsUsed } : State).setVm s₂.vm), Ls ++ L, c0 + mc, s0 + ms⟩,
      ⟨X.admits, X.cas, X.clock, X.frames, X.room, X.hears, X.method, X.code, (X.here.setHeapUsed s₂.heap s₂.slotsUsed).setVm hW'.alike, X.tail, State.WarmedH.trans X.warmed hW', X.limits, X.bytes, X.same.trans (hsame.setVm s.vm)⟩,
      ⟨g, mk, s₂, L, rfl, rfl, hqc, rfl, hL, rfl, rfl⟩, ?_⟩
    show Steps p.tables e below _ ((({ U with heap := s₂.heap, slotsUsed := s₂.slotsUsed } : State).setVm s₂.vm).setTop { g with pc := g.pc + len₂, stack := v.toList ++ g.stack })
    rw [← hs₂]
    exact hsteps
  · obtain ⟨e2, q2, q3, q4, q5, q6⟩ := id hsm
    have e3 : s₂ = ({ (U.calling g mk a).setFrames s₂.frames with heap := s₂.heap, slotsUsed := s₂.slotsUsed } : State).setVm s₂.vm := by
      have : s₂ = ({ s₂ with vm := (U.calling g mk a).vm } : State).setVm s₂.vm := rfl
      rw [e2] at this
      exact this
    have hf₂ : s₂.frames = .throwing q :: .java g :: U.frames.tail := hend
    have hW' : U.WarmedH s₂.vm := hW₂
    have hs₂ : s₂ = ((({ U with heap := s₂.heap, slotsUsed := s₂.slotsUsed } : State).setVm s₂.vm).setTop g).pushFrame (.throwing q) := by
      refine e3.trans ?_
      rw [hf₂, State.calling_eq h.top, State.setFrames_setFrames, State.pushFrame, State.frames_setTop _ hr', State.setTop_of_frames _ hr', State.setFrames_setFrames, hr]
      rfl
    have hsame : U.sameButNew ({ U with heap := s₂.heap, slotsUsed := s₂.slotsUsed } : State) L mc ms := by
      refine ⟨?_, q2, q3, q4, q5, q6⟩
      obtain ⟨t, ht, -⟩ := State.frames_cons hr
      show ({ U with heap := s₂.heap, slotsUsed := s₂.slotsUsed } : State) = { U.setFrames U.frames with heap := s₂.heap, slotsUsed := s₂.slotsUsed }
      rw [State.setFrames_self ht]
    subst hg
    refine Or.inr ⟨q, ⟨(({ U with heap := s₂.heap, slotsUsed := s₂.slotsUsed } : State).setVm s₂.vm), Ls ++ L, c0 + mc, s0 + ms⟩,
      ⟨X.admits, X.cas, X.clock, X.frames, X.room, X.hears, X.method, X.code, (X.here.setHeapUsed s₂.heap s₂.slotsUsed).setVm hW'.alike, X.tail, State.WarmedH.trans X.warmed hW', X.limits, X.bytes, X.same.trans (hsame.setVm s.vm)⟩,
      ⟨g, mk, s₂, L, E, ce, rfl, rfl, hx, hce, hcv, hcl, rfl, hL, rfl, rfl⟩, ?_⟩
    show Steps p.tables e below _ (((({ U with heap := s₂.heap, slotsUsed := s₂.slotsUsed } : State).setVm s₂.vm).setTop g).pushFrame (.throwing q))
    rw [← hs₂]
    exact hsteps
end
variable {p : Program} {l : Launch} {e : Env} {R : Room} {s : State} {m : MethodId} {args : Array Value} {below : List Frame} {meth : Method} {c : Code} {T : State} {H : Heap} {locs : List Loc} {cells slots : Nat}
theorem vx_callVX (X : Stand p l e R s m args below meth c T locs cells slots) (hexec : p.tables.exec = Jvm.exec) {own C : String} {index : Nat} {y : MethodName} {bytes : ByteArray} {maxL : Nat} {ret : Option FieldType} {hh : List (Nat × Nat × Nat × Nat)}
    (hown : s.vm.findClass own = some m.cls) (hlink : (Cond.methodLink own index y).before args s = true) (hinst : (Cond.instanceMethod y).before args s = true) (hsel : (Cond.selects C y y).before args s = true)
    (hcode : (Cond.codeWith y bytes maxL ret hh).before args s = true) (hy : y.cls ≠ "java/lang/invoke/MethodHandle" ∧ y.cls ≠ "java/lang/invoke/VarHandle")
    {W9 : Nat} {Pre : Pt → Array Value → Prop} {Post : Pt → Array Value → Option Value → Pt → Prop} {PostX : Pt → Array Value → Addr → Pt → Prop} (hK : vx_Back l R p e below s args y 3 W9 Pre Post PostX)
    {b : Addr} {cellB : Cell} (hcell : T.heap[b]? = some cellB) (hobj : cellB.vm.isStatics = false) (hcls : s.vm.findClass C = some cellB.cls)
    {g : JFrame} (hg : g.method = m) (hsize : g.locals.size = c.maxLocals) {argsL rest : List Value} (hlen : ∀ sig, parseMethodDescriptor y.desc = some sig → argsL.length = sig.parameters.length)
    (hstack : g.stack = argsL.reverse ++ .ref b :: rest) (hW : 2 * g.monitorRoom + (rest.map fun v => v.category).sum ≤ W9) (hdg : decode c.code g.pc = .ok (.invokevirtual index, 3))
    (hpre : ∀ vm₁, s.WarmedH vm₁ → Pre ⟨T.setVm vm₁, locs, cells, slots⟩ (Value.ref b :: argsL).toArray) :
    (∃ (v : Option Value) (vm₁ : Vm) (B : Pt), s.WarmedH vm₁ ∧ Stand p l e R s m args below meth c B.U B.locs B.cells B.slots ∧ Post ⟨T.setVm vm₁, locs, cells, slots⟩ (Value.ref b :: argsL).toArray v B ∧
      ∀ target, Steps p.tables e below (B.U.setTop { g with pc := g.pc + 3, stack := v.toList ++ rest }) target → Steps p.tables e below (T.setTop g) target) ∨
    (∃ (q : Addr) (vm₁ : Vm) (B : Pt), s.WarmedH vm₁ ∧ Stand p l e R s m args below meth c B.U B.locs B.cells B.slots ∧ PostX ⟨T.setVm vm₁, locs, cells, slots⟩ (Value.ref b :: argsL).toArray q B ∧
      Steps p.tables e below (T.setTop g) ((B.U.setTop { g with stack := rest }).pushFrame (.throwing q))) := by
  obtain ⟨mk, methM, hnamed, hmethM, hstM, habM⟩ := Cond.instanceMethod_spec hinst
  obtain ⟨m8, methM', cM, hn8, hmethM', -, -, -, -, -, -, hsigM⟩ := Cond.codeWith_spec hcode
  cases Option.some.inj (hn8.symm.trans hnamed)
  cases hmethM.symm.trans hmethM'
  obtain ⟨c2, r2, m2, q1, q2, q3, q4, kP, hkP, hkPi⟩ := Cond.selects_spec hsel
  cases hcls.symm.trans q1
  cases (State.methodFound?_of_named hnamed hy).symm.trans q2
  cases hnamed.symm.trans q3
  have hselP : selectMethod e.platform s.vm cellB.cls mk = .method mk := by rw [Launch.admits_selectMethod X.admits]; exact q4
  obtain ⟨vm₁, X₁, hstep₁⟩ := X.invokevirtual hexec hown hlink hnamed hmethM hstM hkP hkPi hy (a := b) (cell := cellB) hcell
    (fun z h => by rw [h] at hobj; cases hobj) hselP hmethM habM hkP hkPi (g := g) hg (argsL := argsL) (rest := rest) (hlen _ hsigM) hstack hdg
  rcases hK m meth c ⟨T.setVm vm₁, locs, cells, slots⟩ { g with stack := rest } (.invokevirtual index) mk (Value.ref b :: argsL).toArray X₁ hg hsize hdg hW (X₁.named hnamed) (hpre vm₁ X₁.warmed) with ⟨v, B, X', hpost, hsteps⟩ | ⟨q, B, X', hpost, hsteps⟩
  · exact Or.inl ⟨v, vm₁, B, X₁.warmed, X', hpost, fun target h => hstep₁ _ fun acts => by rw [doInvoke_state]; exact hsteps.trans h⟩
  · exact Or.inr ⟨q, vm₁, B, X₁.warmed, X', hpost, hstep₁ _ fun acts => by rw [doInvoke_state]; exact hsteps⟩
theorem vx_callSX (X : Stand p l e R s m args below meth c T locs cells slots) (hexec : p.tables.exec = Jvm.exec) {own : String} {index : Nat} {y : MethodName} {bytes : ByteArray} {maxL : Nat} {ret : Option FieldType} {hh : List (Nat × Nat × Nat × Nat)}
    (hown : s.vm.findClass own = some m.cls) (hlink : (Cond.methodLink own index y).before args s = true) (hstat : (Cond.static y).before args s = true) (hinit : (Cond.initialized y.cls).before args s = true)
    (hcode : (Cond.codeWith y bytes maxL ret hh).before args s = true) (hy : y.cls ≠ "java/lang/invoke/MethodHandle" ∧ y.cls ≠ "java/lang/invoke/VarHandle")
    {W9 : Nat} {Pre : Pt → Array Value → Prop} {Post : Pt → Array Value → Option Value → Pt → Prop} {PostX : Pt → Array Value → Addr → Pt → Prop} (hK : vx_Back l R p e below s args y 3 W9 Pre Post PostX)
    {g : JFrame} (hg : g.method = m) (hsize : g.locals.size = c.maxLocals) {argsL rest : List Value} (hlen : ∀ sig, parseMethodDescriptor y.desc = some sig → argsL.length = sig.parameters.length)
    (hstack : g.stack = argsL.reverse ++ rest) (hW : 2 * g.monitorRoom + (rest.map fun v => v.category).sum ≤ W9) (hdg : decode c.code g.pc = .ok (.invokestatic index, 3))
    (hpre : ∀ vm₁, s.WarmedH vm₁ → Pre ⟨T.setVm vm₁, locs, cells, slots⟩ argsL.toArray) :
    (∃ (v : Option Value) (vm₁ : Vm) (B : Pt), s.WarmedH vm₁ ∧ Stand p l e R s m args below meth c B.U B.locs B.cells B.slots ∧ Post ⟨T.setVm vm₁, locs, cells, slots⟩ argsL.toArray v B ∧
      ∀ target, Steps p.tables e below (B.U.setTop { g with pc := g.pc + 3, stack := v.toList ++ rest }) target → Steps p.tables e below (T.setTop g) target) ∨
    (∃ (q : Addr) (vm₁ : Vm) (B : Pt), s.WarmedH vm₁ ∧ Stand p l e R s m args below meth c B.U B.locs B.cells B.slots ∧ PostX ⟨T.setVm vm₁, locs, cells, slots⟩ argsL.toArray q B ∧
      Steps p.tables e below (T.setTop g) ((B.U.setTop { g with stack := rest }).pushFrame (.throwing q))) := by
  obtain ⟨mk, methM, cM, hnamed, hmethM, -, -, -, -, -, -, hsigM⟩ := Cond.codeWith_spec hcode
  have hstatic : methM.isStatic = true := Cond.static_spec hnamed hmethM hstat
  obtain ⟨kP, hkP, -⟩ := className_of_methodNamed hnamed
  have hinitP : kP.init = .initialized := Cond.initialized_spec (findClass_of_methodNamed hnamed) hkP hinit
  obtain ⟨vm₁, X₁, hstep₁⟩ := X.invokestatic hexec hown hlink hnamed hmethM hstatic hkP hinitP hy (g := g) hg (argsL := argsL) (rest := rest) (hlen _ hsigM) hstack hdg
  rcases hK m meth c ⟨T.setVm vm₁, locs, cells, slots⟩ { g with stack := rest } (.invokestatic index) mk argsL.toArray X₁ hg hsize hdg hW (X₁.named hnamed) (hpre vm₁ X₁.warmed) with ⟨v, B, X', hpost, hsteps⟩ | ⟨q, B, X', hpost, hsteps⟩
  · exact Or.inl ⟨v, vm₁, B, X₁.warmed, X', hpost, fun target h => hstep₁ _ fun acts => by rw [doInvoke_state]; exact hsteps.trans h⟩
  · exact Or.inr ⟨q, vm₁, B, X₁.warmed, X', hpost, hstep₁ _ fun acts => by rw [doInvoke_state]; exact hsteps⟩
theorem vx_callVW (X : Stand p l e R s m args below meth c T locs cells slots) (hexec : p.tables.exec = Jvm.exec) {own C : String} {index : Nat} {y : MethodName} {bytes : ByteArray} {maxL : Nat} {ret : Option FieldType} {hh : List (Nat × Nat × Nat × Nat)}
    (hown : s.vm.findClass own = some m.cls) (hlink : (Cond.methodLink own index y).before args s = true) (hinst : (Cond.instanceMethod y).before args s = true) (hsel : (Cond.selects C y y).before args s = true)
    (hcode : (Cond.codeWith y bytes maxL ret hh).before args s = true) (hy : y.cls ≠ "java/lang/invoke/MethodHandle" ∧ y.cls ≠ "java/lang/invoke/VarHandle")
    {W9 : Nat} {Pre : Pt → Array Value → Prop} {Post : Pt → Array Value → Option Value → Pt → Prop} (hK : Back l R p e below s args y 3 W9 Pre Post)
    {b : Addr} {cellB : Cell} (hcell : T.heap[b]? = some cellB) (hobj : cellB.vm.isStatics = false) (hcls : s.vm.findClass C = some cellB.cls)
    {g : JFrame} (hg : g.method = m) (hsize : g.locals.size = c.maxLocals) {argsL rest : List Value} (hlen : ∀ sig, parseMethodDescriptor y.desc = some sig → argsL.length = sig.parameters.length)
    (hstack : g.stack = argsL.reverse ++ .ref b :: rest) (hW : 2 * g.monitorRoom + (rest.map fun v => v.category).sum ≤ W9) (hdg : decode c.code g.pc = .ok (.invokevirtual index, 3))
    (hpre : ∀ vm₁, s.WarmedH vm₁ → Pre ⟨T.setVm vm₁, locs, cells, slots⟩ (Value.ref b :: argsL).toArray) :
    ∃ (v : Option Value) (vm₁ : Vm) (B : Pt), s.WarmedH vm₁ ∧ Stand p l e R s m args below meth c B.U B.locs B.cells B.slots ∧ Post ⟨T.setVm vm₁, locs, cells, slots⟩ (Value.ref b :: argsL).toArray v B ∧
      ∀ target, Steps p.tables e below (B.U.setTop { g with pc := g.pc + 3, stack := v.toList ++ rest }) target → Steps p.tables e below (T.setTop g) target := by
  obtain ⟨mk, methM, hnamed, hmethM, hstM, habM⟩ := Cond.instanceMethod_spec hinst
  obtain ⟨m8, methM', cM, hn8, hmethM', -, -, -, -, -, -, hsigM⟩ := Cond.codeWith_spec hcode
  cases Option.some.inj (hn8.symm.trans hnamed)
  cases hmethM.symm.trans hmethM'
  obtain ⟨c2, r2, m2, q1, q2, q3, q4, kP, hkP, hkPi⟩ := Cond.selects_spec hsel
  cases hcls.symm.trans q1
  cases (State.methodFound?_of_named hnamed hy).symm.trans q2
  cases hnamed.symm.trans q3
  have hselP : selectMethod e.platform s.vm cellB.cls mk = .method mk := by rw [Launch.admits_selectMethod X.admits]; exact q4
  obtain ⟨vm₁, X₁, hstep₁⟩ := X.invokevirtual hexec hown hlink hnamed hmethM hstM hkP hkPi hy (a := b) (cell := cellB) hcell
    (fun z h => by rw [h] at hobj; cases hobj) hselP hmethM habM hkP hkPi (g := g) hg (argsL := argsL) (rest := rest) (hlen _ hsigM) hstack hdg
  obtain ⟨v, B, X', hpost, hsteps⟩ := hK m meth c ⟨T.setVm vm₁, locs, cells, slots⟩ { g with stack := rest } (.invokevirtual index) mk (Value.ref b :: argsL).toArray X₁ hg hsize hdg hW (X₁.named hnamed) (hpre vm₁ X₁.warmed)
  exact ⟨v, vm₁, B, X₁.warmed, X', hpost, fun target h => hstep₁ _ fun acts => by rw [doInvoke_state]; exact hsteps.trans h⟩
abbrev vx_CVW (R : Room) (s : State) (args : Array Value) (own C : String) (index : Nat) (y : MethodName) (bytes : ByteArray) (maxL : Nat) (ret : Option FieldType) (hh : List (Nat × Nat × Nat × Nat)) (ws : List Cond) (rm : Room) (mc ms n : Nat) : Prop :=
  (rm.cells = mc ∧ rm.slots = ms ∧ rm.frames + 1 ≤ R.frames ∧ 8 + (maxL + 11) + rm.locals ≤ R.locals ∧ (∀ w ∈ ws, ∀ (a' : Array Value) (U : State), s.WarmedH U.vm → w.before a' U = true) ∧ Cond.codeWith y bytes maxL ret hh ∈ ws) ∧
  (Cond.codeWith y bytes maxL ret hh).before args s = true ∧ (Cond.initialized y.cls).before args s = true ∧ (y.cls ≠ "java/lang/invoke/MethodHandle" ∧ y.cls ≠ "java/lang/invoke/VarHandle") ∧
  (∀ sig, parseMethodDescriptor y.desc = some sig → n = sig.parameters.length) ∧ (Cond.methodLink own index y).before args s = true ∧ (Cond.instanceMethod y).before args s = true ∧ (Cond.selects C y y).before args s = true
theorem vx_cwVW {own C : String} {index maxL mc ms : Nat} {y : MethodName} {bytes : ByteArray} {ret : Option FieldType} {hh : List (Nat × Nat × Nat × Nat)} {Ts ws ws' : List Cond} {rm : Room} (n : Nat) (ht : ∀ w ∈ Ts, w.before args s = true) (hT : GoodIn Ts (wsV own index C y ws)) (hw : ws = Cond.codeWith y bytes maxL ret hh :: ws') (hrc : rm.cells = mc) (hrs : rm.slots = ms)
    (hd : y.cls = C ∧ y.cls ≠ "java/lang/invoke/MethodHandle" ∧ y.cls ≠ "java/lang/invoke/VarHandle" ∧ (parseMethodDescriptor y.desc).map (fun d => d.parameters.length) = some n) (hR : rm.frames + 1 ≤ R.frames ∧ 8 + (maxL + 11) + rm.locals ≤ R.locals) :
    vx_CVW R s args own C index y bytes maxL ret hh ws rm mc ms n := by
  obtain ⟨hC, hd⟩ := hd
  subst hC
  have ok : ∀ w ∈ wsV own index y.cls y ws, w.before args s = true := fun w h => ht w (hT w h).1
  have hG : GoodIn Ts ws := fun w h => hT w (by unfold wsV; exact List.mem_append_right _ h)
  have hc : Cond.codeWith y bytes maxL ret hh ∈ ws := by rw [hw]; exact List.mem_cons_self
  refine ⟨⟨hrc, hrs, hR.1, hR.2, pay_in ht hG, hc⟩, ht _ (hG _ hc).1, ok _ (by simp [wsV]), ⟨hd.1, hd.2.1⟩, fun sig h => ?_, ok _ (by simp [wsV]), ok _ (by simp [wsV]), ok _ (by simp [wsV])⟩
  have h2 := hd.2.2
  rw [h] at h2
  exact (Option.some.inj h2).symm
theorem vx_runVW {y : MethodName} {bytes cc : ByteArray} {maxL nL mc ms n index : Nat} {ret : Option FieldType} {hh : List (Nat × Nat × Nat × Nat)} {ws : List Cond} {rm : Room} {Pc : Array Value → State → Prop} {Qc : Array Value → State → Outcome → State → Prop} {free : Addr → Prop} {Ts : List Cond} {own C : String} {b : Addr} {As rest : List Value} {g : JFrame}
    (S : CallFix p m c cc nL s args Ts own) (hM : Met l y ws rm Pc Qc mc ms free) (cw : vx_CVW R s args own C index y bytes maxL ret hh ws rm mc ms n) (hp : PreV s H C b Pc As)
    (hg : g.method = m) (hn : As.length = n) (hsize : g.locals.size = nL) (hstack : g.stack = As.reverse ++ .ref b :: rest) (hW : 2 * g.monitorRoom + (rest.map fun v => v.category).sum ≤ 8) (hdg : decode cc g.pc = .ok (.invokevirtual index, 3)) (hf : cells + mc ≤ R.cells ∧ slots + ms ≤ R.slots) :
    va_Run p l e R s m args below meth c H locs cells slots mc ms g rest (Qc (Value.ref b :: As).toArray) free := by
  obtain ⟨⟨hrc, hrs, hfr, hlo, hws, hcw⟩, hcode, hini, hy, hlen, hl, hin, hse⟩ := cw
  have hK : Back l R p e below s args y 3 8 (PreOf R mc ms Pc) (PostOf Qc mc ms free) := va_backW (hh := hh) (bytes := bytes) (maxL := maxL) (ret := ret) hM hp.1 hrc hrs hfr hlo hws hcw (fun a' U hW => word_at hW (Or.inl (by first | rfl | simp [Cond.onTables, Cond.keeps, Cond.steady])) hini)
  obtain ⟨hx, hb, hml, ho, -⟩ := S
  obtain ⟨-, ⟨cellB, hcB, hoB, hclB⟩, hPc⟩ := hp
  intro T hT X
  obtain ⟨v, vm₁, ⟨U', l2, c2, s2⟩, hW₁, X', ⟨g', mk, t, L, e1, e2, hq, h1, hL, h2, h3⟩, st⟩ := vx_callVW X hx (C := C) (hh := hh) (bytes := bytes) (maxL := maxL) (ret := ret) ho hl hin hse hcode hy hK (by rw [hT]; exact hcB) hoB hclB hg (hsize.trans hml.symm) (argsL := As) (rest := rest) (fun sig h => hn.trans (hlen sig h)) hstack hW (by rw [hb]; exact hdg)
    (fun vm₁ hW₁ => ⟨hf.1, hf.2, hPc (T.setVm vm₁) hT hW₁⟩)
  dsimp only [Pt.U, Pt.locs, Pt.cells, Pt.slots] at X' e1 e2 h1 h2 h3 st
  subst h1; subst h2; subst h3
  exact ⟨v, (T.setVm vm₁).calling g' mk (Value.ref b :: As).toArray, t, U', L, hT, X', hL, e1, e2, hq, st⟩
section
variable {y : MethodName} {bytes cc : ByteArray} {maxL nL mc ms n index : Nat} {ret : Option FieldType} {ws : List Cond} {rm : Room} {Pc : Array Value → State → Prop} {Qc : Array Value → State → Outcome → State → Prop} {XC : String → State → State → Prop} {free : Addr → Prop} {Ts : List Cond} {own C : String} {b : Addr} {As rest : List Value} {g : JFrame}
theorem vx_runVX {hh : List (Nat × Nat × Nat × Nat)} (S : CallFix p m c cc nL s args Ts own) (hM : vx_Met l y ws rm Pc Qc XC mc ms free) (cw : vx_CVW R s args own C index y bytes maxL ret hh ws rm mc ms n) (hp : PreV s H C b Pc As)
    (hg : g.method = m) (hn : As.length = n) (hsize : g.locals.size = nL) (hstack : g.stack = As.reverse ++ .ref b :: rest) (hW : 2 * g.monitorRoom + (rest.map fun v => v.category).sum ≤ 8) (hdg : decode cc g.pc = .ok (.invokevirtual index, 3)) (hf : cells + mc ≤ R.cells ∧ slots + ms ≤ R.slots) :
    vx_Run p l e R s m args below meth c H locs cells slots mc ms g rest (Qc (Value.ref b :: As).toArray) XC free := by
  obtain ⟨⟨hrc, hrs, hfr, hlo, hws, hcw⟩, hcode, hini, hy, hlen, hl, hin, hse⟩ := cw
  have hK : vx_Back l R p e below s args y 3 8 (PreOf R mc ms Pc) (PostOf Qc mc ms free) (vx_Post XC mc ms free) := vx_backW (hh := hh) (bytes := bytes) (maxL := maxL) (ret := ret) hM hp.1 hrc hrs hfr hlo hws hcw (fun a' U hW => word_at hW (Or.inl (by first | rfl | simp [Cond.onTables, Cond.keeps, Cond.steady])) hini)
  obtain ⟨hx, hb, hml, ho, -⟩ := S
  obtain ⟨-, ⟨cellB, hcB, hoB, hclB⟩, hPc⟩ := hp
  intro T hT X
  rcases vx_callVX X hx (C := C) (hh := hh) (bytes := bytes) (maxL := maxL) (ret := ret) ho hl hin hse hcode hy hK (by rw [hT]; exact hcB) hoB hclB hg (hsize.trans hml.symm) (argsL := As) (rest := rest) (fun sig h => hn.trans (hlen sig h)) hstack hW (by rw [hb]; exact hdg)
    (fun vm₁ hW₁ => ⟨hf.1, hf.2, hPc (T.setVm vm₁) hT hW₁⟩) with ⟨v, vm₁, ⟨U', l2, c2, s2⟩, hW₁, X', ⟨g', mk, t, L, e1, e2, hq, h1, hL, h2, h3⟩, st⟩ | ⟨q, vm₁, ⟨U', l2, c2, s2⟩, hW₁, X', ⟨g', mk, t, L, E, ce, e1, e2, hq, hce, hcv, hcl, h1, hL, h2, h3⟩, st⟩
  · dsimp only [Pt.U, Pt.locs, Pt.cells, Pt.slots] at X' e1 e2 h1 h2 h3 st
    subst h1; subst h2; subst h3
    exact Or.inl ⟨v, (T.setVm vm₁).calling g' mk (Value.ref b :: As).toArray, t, U', L, hT, X', hL, e1, e2, hq, st⟩
  · dsimp only [Pt.U, Pt.locs, Pt.cells, Pt.slots] at X' e1 e2 h1 h2 h3 st hcl
    subst h1; subst h2; subst h3
    exact Or.inr ⟨q, (T.setVm vm₁).calling g' mk (Value.ref b :: As).toArray, t, U', L, E, ce, hT, X', hL, e1, e2, hq, hce, hcv, vx_cls hW₁ hcl, st⟩
theorem vx_runSX {hh : List (Nat × Nat × Nat × Nat)} (S : CallFix p m c cc nL s args Ts own) (hM : vx_Met l y ws rm Pc Qc XC mc ms free) (cw : vx_CSW R s args own index y bytes maxL ret hh ws rm mc ms n) (hp : PreS s H Pc As)
    (hg : g.method = m) (hn : As.length = n) (hsize : g.locals.size = nL) (hstack : g.stack = As.reverse ++ rest) (hW : 2 * g.monitorRoom + (rest.map fun v => v.category).sum ≤ 8) (hdg : decode cc g.pc = .ok (.invokestatic index, 3)) (hf : cells + mc ≤ R.cells ∧ slots + ms ≤ R.slots) :
    vx_Run p l e R s m args below meth c H locs cells slots mc ms g rest (Qc As.toArray) XC free := by
  obtain ⟨⟨hrc, hrs, hfr, hlo, hws, hcw⟩, hcode, hini, hy, hlen, hl, hstt⟩ := cw
  have hK : vx_Back l R p e below s args y 3 8 (PreOf R mc ms Pc) (PostOf Qc mc ms free) (vx_Post XC mc ms free) := vx_backW (hh := hh) (bytes := bytes) (maxL := maxL) (ret := ret) hM hp.1 hrc hrs hfr hlo hws hcw (fun a' U hW => word_at hW (Or.inl (by first | rfl | simp [Cond.onTables, Cond.keeps, Cond.steady])) hini)
  obtain ⟨hx, hb, hml, ho, -⟩ := S
  intro T hT X
  rcases vx_callSX X hx (hh := hh) (bytes := bytes) (maxL := maxL) (ret := ret) ho hl hstt hini hcode hy hK hg (hsize.trans hml.symm) (argsL := As) (rest := rest) (fun sig h => hn.trans (hlen sig h)) hstack hW (by rw [hb]; exact hdg)
    (fun vm₁ hW₁ => ⟨hf.1, hf.2, hp.2 (T.setVm vm₁) hT hW₁⟩) with ⟨v, vm₁, ⟨U', l2, c2, s2⟩, hW₁, X', ⟨g', mk, t, L, e1, e2, hq, h1, hL, h2, h3⟩, st⟩ | ⟨q, vm₁, ⟨U', l2, c2, s2⟩, hW₁, X', ⟨g', mk, t, L, E, ce, e1, e2, hq, hce, hcv, hcl, h1, hL, h2, h3⟩, st⟩
  · dsimp only [Pt.U, Pt.locs, Pt.cells, Pt.slots] at X' e1 e2 h1 h2 h3 st
    subst h1; subst h2; subst h3
    exact Or.inl ⟨v, (T.setVm vm₁).calling g' mk As.toArray, t, U', L, hT, X', hL, e1, e2, hq, st⟩
  · dsimp only [Pt.U, Pt.locs, Pt.cells, Pt.slots] at X' e1 e2 h1 h2 h3 st hcl
    subst h1; subst h2; subst h3
    exact Or.inr ⟨q, (T.setVm vm₁).calling g' mk As.toArray, t, U', L, E, ce, hT, X', hL, e1, e2, hq, hce, hcv, vx_cls hW₁ hcl, st⟩
end
end VXH
theorem vx_ofWH {l : Launch} {y : MethodName} {ws ws' : List Cond} {rm : Room} {Pc : Array Value → State → Prop} {Qc : Array Value → State → Outcome → State → Prop} {XC : String → State → State → Prop} {mc ms : Nat} {free : Addr → Prop} {cc : ByteArray} {maxL : Nat} {ret : Option FieldType} {hh : List (Nat × Nat × Nat × Nat)}
    (hy : plainName y.cls = true) (hw : ws = Cond.codeWith y cc maxL ret hh :: ws')
    (body : ∀ p e s m args below meth c s₁, BodyLoose p l y (headSpec ws rm) cc maxL ret e s m args below meth c s₁ → c.maxLocals = maxL → Pc args s →
      W p l e (headSpec ws rm).room s m args below meth c s.heap [] 0 0 (vx_MQ below Qc XC args s mc ms free) (entryFrame m args maxL)) : vx_Met l y ws rm Pc Qc XC mc ms free := by
  refine MetFree.of_bodyS (code := cc) (maxLocals := maxL) (ret := ret) hy ?_ ?_
  · intro args s m h hn
    obtain ⟨m9, meth, c, hn9, h1, h2, h3, h4, -, h5, h6, -⟩ := Cond.codeWith_spec (atoms_spec (ws := ws) h _ (by rw [hw]; exact List.mem_cons_self))
    cases hn.symm.trans hn9
    exact ⟨meth, c, h1, h2, h3, h4, h5, h6⟩
  · intro p e s m args below meth c s₁ B hml hP _
    have hh0 : s₁.heap = s.heap := by rw [B.state]; rfl
    obtain ⟨t, a1, o, b1, b2, b3⟩ := body p e s m args below meth c s₁ B hml hP s₁ hh0 (Stand.of_body B)
    exact ⟨t, o, a1, b1, b2, b3⟩
/-! ===== END ===== -/
end
section
def RX0 : String := "PathHouse$Finder"
def TX0 : u_T := fun k => match k with
  | 0 => ("PathHouse$Finder", "rows", "[LPathHouse$Row;", true)
  | 1 => ("PathHouse$Finder", "root", "LPathHouse$Node;", false)
  | 2 => ("PathHouse$Finder", "result", "LPathHouse$Row;", false)
  | 3 => ("PathHouse$Finder", "looks", "I", false)
  | _ => ("PathHouse$Finder", "stopped", "I", false)
def tyX0 : Nat → FieldType := fun k => match k with
  | 0 => .array (.object "PathHouse$Row")
  | 1 => .object "PathHouse$Node"
  | 2 => .object "PathHouse$Row"
  | 3 => .int
  | _ => .int
theorem nmX0 : ∀ a, a < 5 → ∀ b, b < 5 → a ≠ b → (TX0 a).2.1 ≠ (TX0 b).2.1 := by decide +kernel
theorem tyX0_ok : ∀ k, k < 5 → parseFieldDescriptor (TX0 k).2.2.1 = some (tyX0 k) := by decide +kernel
abbrev cX0_init : ByteArray := prog_2_method_1_code
def yX0_init : MethodName := ⟨RX0, "<init>", "()V"⟩
abbrev cX0_forget : ByteArray := prog_2_method_2_code
def yX0_forget : MethodName := ⟨RX0, "forget", "()V"⟩
abbrev cX0_result : ByteArray := prog_2_method_3_code
def yX0_result : MethodName := ⟨RX0, "result", "(I)LPathHouse$Node;"⟩
abbrev cX0_results : ByteArray := prog_2_method_4_code
def yX0_results : MethodName := ⟨RX0, "results", "()I"⟩
abbrev cX0_run : ByteArray := prog_2_method_5_code
def yX0_run : MethodName := ⟨RX0, "run", "(LPathHouse$Path;LPathHouse$Node;)I"⟩
abbrev cX0_stop : ByteArray := prog_2_method_6_code
def yX0_stop : MethodName := ⟨RX0, "stop", "(I)V"⟩
abbrev cX0_look : ByteArray := prog_2_method_7_code
def yX0_look : MethodName := ⟨RX0, "look", "()V"⟩
abbrev cX0_put : ByteArray := prog_2_method_8_code
def yX0_put : MethodName := ⟨RX0, "put", "(LPathHouse$Node;LPathHouse$Row;)V"⟩
abbrev cX0_emptyRow : ByteArray := prog_2_method_9_code
def yX0_emptyRow : MethodName := ⟨RX0, "emptyRow", "(I)LPathHouse$Row;"⟩
abbrev cX0_select : ByteArray := prog_2_method_10_code
def yX0_select : MethodName := ⟨RX0, "select", "(LPathHouse$Path;LPathHouse$Node;I)LPathHouse$Row;"⟩
abbrev cX0_walk : ByteArray := prog_2_method_11_code
def yX0_walk : MethodName := ⟨RX0, "walk", "(LPathHouse$Segment;LPathHouse$Node;LPathHouse$Row;I)V"⟩
abbrev cX0_ask : ByteArray := prog_2_method_12_code
def yX0_ask : MethodName := ⟨RX0, "ask", "(LPathHouse$Segment;LPathHouse$Node;LPathHouse$Row;I)V"⟩
abbrev cX0_pick : ByteArray := prog_2_method_13_code
def yX0_pick : MethodName := ⟨RX0, "pick", "(LPathHouse$Selector;LPathHouse$Node;LPathHouse$Row;I)V"⟩
abbrev cX0_pickAll : ByteArray := prog_2_method_14_code
def yX0_pickAll : MethodName := ⟨RX0, "pickAll", "(LPathHouse$Node;LPathHouse$Row;)V"⟩
abbrev cX0_pickTrue : ByteArray := prog_2_method_15_code
def yX0_pickTrue : MethodName := ⟨RX0, "pickTrue", "(LPathHouse$Term;LPathHouse$Node;LPathHouse$Row;I)V"⟩
abbrev cX0_pickSlice : ByteArray := prog_2_method_16_code
def yX0_pickSlice : MethodName := ⟨RX0, "pickSlice", "(LPathHouse$Selector;LPathHouse$Node;LPathHouse$Row;)V"⟩
abbrev cX0_bounded : ByteArray := prog_2_method_17_code
def yX0_bounded : MethodName := ⟨RX0, "bounded", "(JIJJ)J"⟩
abbrev cX0_holds : ByteArray := prog_2_method_18_code
def yX0_holds : MethodName := ⟨RX0, "holds", "(LPathHouse$Term;LPathHouse$Node;I)Z"⟩
abbrev cX0_countOf : ByteArray := prog_2_method_19_code
def yX0_countOf : MethodName := ⟨RX0, "countOf", "(LPathHouse$Term;LPathHouse$Node;I)I"⟩
abbrev cX0_onlyOf : ByteArray := prog_2_method_20_code
def yX0_onlyOf : MethodName := ⟨RX0, "onlyOf", "(LPathHouse$Term;LPathHouse$Node;I)LPathHouse$Node;"⟩
abbrev cX0_valueOf : ByteArray := prog_2_method_21_code
def yX0_valueOf : MethodName := ⟨RX0, "valueOf", "(LPathHouse$Term;LPathHouse$Node;I)LPathHouse$Node;"⟩
abbrev cX0_reckoned : ByteArray := prog_2_method_22_code
def yX0_reckoned : MethodName := ⟨RX0, "reckoned", "(ILPathHouse$Node;)LPathHouse$Node;"⟩
abbrev cX0_lengthOf : ByteArray := prog_2_method_23_code
def yX0_lengthOf : MethodName := ⟨RX0, "lengthOf", "(LPathHouse$Node;LPathHouse$Node;)LPathHouse$Node;"⟩
abbrev cX0_compares : ByteArray := prog_2_method_24_code
def yX0_compares : MethodName := ⟨RX0, "compares", "(ILPathHouse$Node;LPathHouse$Node;)Z"⟩
abbrev cX0_isLess : ByteArray := prog_2_method_25_code
def yX0_isLess : MethodName := ⟨RX0, "isLess", "(LPathHouse$Node;LPathHouse$Node;)Z"⟩
abbrev cX0_isEqual : ByteArray := prog_2_method_26_code
def yX0_isEqual : MethodName := ⟨RX0, "isEqual", "(LPathHouse$Node;LPathHouse$Node;I)Z"⟩
def RX1 : String := "PathHouse$Node"
def TX1 : u_T := fun k => match k with
  | 0 => ("PathHouse$Node", "kind", "I", true)
  | 1 => ("PathHouse$Node", "parent", "LPathHouse$Node;", true)
  | 2 => ("PathHouse$Node", "depth", "I", true)
  | 3 => ("PathHouse$Node", "order", "I", true)
  | 4 => ("PathHouse$Node", "kids", "Ljava/util/ArrayList;", true)
  | 5 => ("PathHouse$Node", "whole", "J", false)
  | 6 => ("PathHouse$Node", "chars", "[I", false)
  | 7 => ("PathHouse$Node", "name", "[I", false)
  | 8 => ("PathHouse$Node", "index", "I", false)
  | 9 => ("PathHouse$Node", "last", "I", false)
  | _ => ("PathHouse$Node", "next", "LPathHouse$Node;", false)
def tyX1 : Nat → FieldType := fun k => match k with
  | 0 => .int
  | 1 => .object "PathHouse$Node"
  | 2 => .int
  | 3 => .int
  | 4 => .object "java/util/ArrayList"
  | 5 => .long
  | 6 => .array .int
  | 7 => .array .int
  | 8 => .int
  | 9 => .int
  | _ => .object "PathHouse$Node"
theorem nmX1 : ∀ a, a < 11 → ∀ b, b < 11 → a ≠ b → (TX1 a).2.1 ≠ (TX1 b).2.1 := by decide +kernel
theorem tyX1_ok : ∀ k, k < 11 → parseFieldDescriptor (TX1 k).2.2.1 = some (tyX1 k) := by decide +kernel
abbrev cX1_init : ByteArray := prog_3_method_1_code
def yX1_init : MethodName := ⟨RX1, "<init>", "(ILPathHouse$Node;II)V"⟩
abbrev cX1_kidCount : ByteArray := prog_3_method_2_code
def yX1_kidCount : MethodName := ⟨RX1, "kidCount", "()I"⟩
abbrev cX1_kid : ByteArray := prog_3_method_3_code
def yX1_kid : MethodName := ⟨RX1, "kid", "(J)LPathHouse$Node;"⟩
abbrev cX1_size : ByteArray := prog_3_method_4_code
def yX1_size : MethodName := ⟨RX1, "size", "()I"⟩
abbrev cX1_adopt : ByteArray := prog_3_method_5_code
def yX1_adopt : MethodName := ⟨RX1, "adopt", "(LPathHouse$Node;[I)V"⟩
abbrev cX1_member : ByteArray := prog_3_method_6_code
def yX1_member : MethodName := ⟨RX1, "member", "([I)LPathHouse$Node;"⟩
abbrev cX1_element : ByteArray := prog_3_method_7_code
def yX1_element : MethodName := ⟨RX1, "element", "(J)LPathHouse$Node;"⟩
abbrev cX1_deepest : ByteArray := prog_3_method_8_code
def yX1_deepest : MethodName := ⟨RX1, "deepest", "()I"⟩
def RX2 : String := "PathHouse$Out"
def TX2 : u_T := fun k => match k with
  | 0 => ("PathHouse$Out", "bytes", "[B", true)
  | _ => ("PathHouse$Out", "count", "I", false)
def tyX2 : Nat → FieldType := fun k => match k with
  | 0 => .array .byte
  | _ => .int
theorem nmX2 : ∀ a, a < 2 → ∀ b, b < 2 → a ≠ b → (TX2 a).2.1 ≠ (TX2 b).2.1 := by decide +kernel
theorem tyX2_ok : ∀ k, k < 2 → parseFieldDescriptor (TX2 k).2.2.1 = some (tyX2 k) := by decide +kernel
abbrev cX2_init : ByteArray := prog_4_method_1_code
def yX2_init : MethodName := ⟨RX2, "<init>", "()V"⟩
abbrev cX2_clear : ByteArray := prog_4_method_2_code
def yX2_clear : MethodName := ⟨RX2, "clear", "()V"⟩
abbrev cX2_has : ByteArray := prog_4_method_3_code
def yX2_has : MethodName := ⟨RX2, "has", "(I)Z"⟩
abbrev cX2_get : ByteArray := prog_4_method_4_code
def yX2_get : MethodName := ⟨RX2, "get", "(I)I"⟩
abbrev cX2_put : ByteArray := prog_4_method_5_code
def yX2_put : MethodName := ⟨RX2, "put", "(I)V"⟩
abbrev cX2_putWord : ByteArray := prog_4_method_6_code
def yX2_putWord : MethodName := ⟨RX2, "putWord", "(Ljava/lang/String;)V"⟩
abbrev cX2_putWhole : ByteArray := prog_4_method_7_code
def yX2_putWhole : MethodName := ⟨RX2, "putWhole", "(J)V"⟩
abbrev cX2_putQuoted : ByteArray := prog_4_method_8_code
def yX2_putQuoted : MethodName := ⟨RX2, "putQuoted", "([II)V"⟩
abbrev cX2_putControl : ByteArray := prog_4_method_9_code
def yX2_putControl : MethodName := ⟨RX2, "putControl", "(I)V"⟩
abbrev cX2_putCode : ByteArray := prog_4_method_10_code
def yX2_putCode : MethodName := ⟨RX2, "putCode", "(I)V"⟩
abbrev cX2_putSteps : ByteArray := prog_4_method_11_code
def yX2_putSteps : MethodName := ⟨RX2, "putSteps", "(LPathHouse$Node;I)V"⟩
abbrev cX2_putValue : ByteArray := prog_4_method_12_code
def yX2_putValue : MethodName := ⟨RX2, "putValue", "(LPathHouse$Node;I)V"⟩
abbrev cX2_putKids : ByteArray := prog_4_method_13_code
def yX2_putKids : MethodName := ⟨RX2, "putKids", "(LPathHouse$Node;I)V"⟩
def RX3 : String := "PathHouse$Path"
def TX3 : u_T := fun k => match k with
  | 0 => ("PathHouse$Path", "fromRoot", "Z", true)
  | 1 => ("PathHouse$Path", "segments", "Ljava/util/ArrayList;", true)
  | _ => ("PathHouse$Path", "singular", "Z", false)
def tyX3 : Nat → FieldType := fun k => match k with
  | 0 => .boolean
  | 1 => .object "java/util/ArrayList"
  | _ => .boolean
theorem nmX3 : ∀ a, a < 3 → ∀ b, b < 3 → a ≠ b → (TX3 a).2.1 ≠ (TX3 b).2.1 := by decide +kernel
theorem tyX3_ok : ∀ k, k < 3 → parseFieldDescriptor (TX3 k).2.2.1 = some (tyX3 k) := by decide +kernel
abbrev cX3_init : ByteArray := prog_5_method_1_code
def yX3_init : MethodName := ⟨RX3, "<init>", "(Z)V"⟩
def RX4 : String := "PathHouse$QueryReader"
def TX4 : u_T := fun k => match k with
  | 0 => ("PathHouse$QueryReader", "in", "LPathHouse$Reader;", true)
  | 1 => ("PathHouse$QueryReader", "open", "I", false)
  | 2 => ("PathHouse$QueryReader", "laterFault", "I", false)
  | _ => ("PathHouse$QueryReader", "laterPlace", "I", false)
def tyX4 : Nat → FieldType := fun k => match k with
  | 0 => .object "PathHouse$Reader"
  | 1 => .int
  | 2 => .int
  | _ => .int
theorem nmX4 : ∀ a, a < 4 → ∀ b, b < 4 → a ≠ b → (TX4 a).2.1 ≠ (TX4 b).2.1 := by decide +kernel
theorem tyX4_ok : ∀ k, k < 4 → parseFieldDescriptor (TX4 k).2.2.1 = some (tyX4 k) := by decide +kernel
abbrev cX4_init : ByteArray := prog_6_method_1_code
def yX4_init : MethodName := ⟨RX4, "<init>", "(LPathHouse$Reader;)V"⟩
abbrev cX4_whole : ByteArray := prog_6_method_2_code
def yX4_whole : MethodName := ⟨RX4, "whole", "()LPathHouse$Path;"⟩
abbrev cX4_note : ByteArray := prog_6_method_3_code
def yX4_note : MethodName := ⟨RX4, "note", "(II)V"⟩
abbrev cX4_enter : ByteArray := prog_6_method_4_code
def yX4_enter : MethodName := ⟨RX4, "enter", "()V"⟩
abbrev cX4_readInt : ByteArray := prog_6_method_5_code
def yX4_readInt : MethodName := ⟨RX4, "readInt", "(Z)J"⟩
abbrev cX4_atInt : ByteArray := prog_6_method_6_code
def yX4_atInt : MethodName := ⟨RX4, "atInt", "()Z"⟩
abbrev cX4_atString : ByteArray := prog_6_method_7_code
def yX4_atString : MethodName := ⟨RX4, "atString", "()Z"⟩
abbrev cX4_readSegments : ByteArray := prog_6_method_8_code
def yX4_readSegments : MethodName := ⟨RX4, "readSegments", "(LPathHouse$Path;Z)I"⟩
abbrev cX4_readSegment : ByteArray := prog_6_method_9_code
def yX4_readSegment : MethodName := ⟨RX4, "readSegment", "(LPathHouse$Path;Z)V"⟩
abbrev cX4_readDotted : ByteArray := prog_6_method_10_code
def yX4_readDotted : MethodName := ⟨RX4, "readDotted", "(LPathHouse$Segment;Z)Z"⟩
abbrev cX4_readBrackets : ByteArray := prog_6_method_11_code
def yX4_readBrackets : MethodName := ⟨RX4, "readBrackets", "(LPathHouse$Segment;Z)Z"⟩
abbrev cX4_readSelector : ByteArray := prog_6_method_12_code
def yX4_readSelector : MethodName := ⟨RX4, "readSelector", "(Z)LPathHouse$Selector;"⟩
abbrev cX4_readIndexed : ByteArray := prog_6_method_13_code
def yX4_readIndexed : MethodName := ⟨RX4, "readIndexed", "(Z)LPathHouse$Selector;"⟩
abbrev cX4_readSlice : ByteArray := prog_6_method_14_code
def yX4_readSlice : MethodName := ⟨RX4, "readSlice", "(ZJ)LPathHouse$Selector;"⟩
abbrev cX4_readFilter : ByteArray := prog_6_method_15_code
def yX4_readFilter : MethodName := ⟨RX4, "readFilter", "()LPathHouse$Selector;"⟩
abbrev cX4_readOr : ByteArray := prog_6_method_16_code
def yX4_readOr : MethodName := ⟨RX4, "readOr", "(LPathHouse$Term;)LPathHouse$Term;"⟩
abbrev cX4_readAnd : ByteArray := prog_6_method_17_code
def yX4_readAnd : MethodName := ⟨RX4, "readAnd", "(LPathHouse$Term;)LPathHouse$Term;"⟩
abbrev cX4_takesTwice : ByteArray := prog_6_method_18_code
def yX4_takesTwice : MethodName := ⟨RX4, "takesTwice", "(I)Z"⟩
abbrev cX4_readBasic : ByteArray := prog_6_method_19_code
def yX4_readBasic : MethodName := ⟨RX4, "readBasic", "()LPathHouse$Term;"⟩
abbrev cX4_readGroup : ByteArray := prog_6_method_20_code
def yX4_readGroup : MethodName := ⟨RX4, "readGroup", "()LPathHouse$Term;"⟩
abbrev cX4_readNegatedTest : ByteArray := prog_6_method_21_code
def yX4_readNegatedTest : MethodName := ⟨RX4, "readNegatedTest", "()LPathHouse$Term;"⟩
abbrev cX4_readBasicFrom : ByteArray := prog_6_method_22_code
def yX4_readBasicFrom : MethodName := ⟨RX4, "readBasicFrom", "(LPathHouse$Term;)LPathHouse$Term;"⟩
abbrev cX4_asTest : ByteArray := prog_6_method_23_code
def yX4_asTest : MethodName := ⟨RX4, "asTest", "(LPathHouse$Term;)LPathHouse$Term;"⟩
abbrev cX4_atOperator : ByteArray := prog_6_method_24_code
def yX4_atOperator : MethodName := ⟨RX4, "atOperator", "()Z"⟩
abbrev cX4_readComparison : ByteArray := prog_6_method_25_code
def yX4_readComparison : MethodName := ⟨RX4, "readComparison", "(LPathHouse$Term;)LPathHouse$Term;"⟩
abbrev cX4_readOperator : ByteArray := prog_6_method_26_code
def yX4_readOperator : MethodName := ⟨RX4, "readOperator", "()I"⟩
abbrev cX4_readOperand : ByteArray := prog_6_method_27_code
def yX4_readOperand : MethodName := ⟨RX4, "readOperand", "(Z)LPathHouse$Term;"⟩
abbrev cX4_literal : ByteArray := prog_6_method_28_code
def yX4_literal : MethodName := ⟨RX4, "literal", "(II)LPathHouse$Term;"⟩
abbrev cX4_readWord : ByteArray := prog_6_method_29_code
def yX4_readWord : MethodName := ⟨RX4, "readWord", "()LPathHouse$Term;"⟩
abbrev cX4_readFunction : ByteArray := prog_6_method_30_code
def yX4_readFunction : MethodName := ⟨RX4, "readFunction", "(I)LPathHouse$Term;"⟩
abbrev cX4_functionNamed : ByteArray := prog_6_method_31_code
def yX4_functionNamed : MethodName := ⟨RX4, "functionNamed", "(I)I"⟩
abbrev cX4_readArgument : ByteArray := prog_6_method_32_code
def yX4_readArgument : MethodName := ⟨RX4, "readArgument", "()LPathHouse$Term;"⟩
abbrev cX4_goesOnAsOr : ByteArray := prog_6_method_33_code
def yX4_goesOnAsOr : MethodName := ⟨RX4, "goesOnAsOr", "(LPathHouse$Term;)Z"⟩
def RX5 : String := "PathHouse$Reader"
def TX5 : u_T := fun k => match k with
  | 0 => ("PathHouse$Reader", "bytes", "[B", true)
  | 1 => ("PathHouse$Reader", "chars", "[I", true)
  | 2 => ("PathHouse$Reader", "charCount", "I", false)
  | 3 => ("PathHouse$Reader", "end", "I", false)
  | 4 => ("PathHouse$Reader", "at", "I", false)
  | 5 => ("PathHouse$Reader", "fault", "I", false)
  | _ => ("PathHouse$Reader", "place", "I", false)
def tyX5 : Nat → FieldType := fun k => match k with
  | 0 => .array .byte
  | 1 => .array .int
  | 2 => .int
  | 3 => .int
  | 4 => .int
  | 5 => .int
  | _ => .int
theorem nmX5 : ∀ a, a < 7 → ∀ b, b < 7 → a ≠ b → (TX5 a).2.1 ≠ (TX5 b).2.1 := by decide +kernel
theorem tyX5_ok : ∀ k, k < 7 → parseFieldDescriptor (TX5 k).2.2.1 = some (tyX5 k) := by decide +kernel
abbrev cX5_init : ByteArray := prog_7_method_1_code
def yX5_init : MethodName := ⟨RX5, "<init>", "([B)V"⟩
abbrev cX5_begin : ByteArray := prog_7_method_2_code
def yX5_begin : MethodName := ⟨RX5, "begin", "(I)V"⟩
abbrev cX5_fail : ByteArray := prog_7_method_3_code
def yX5_fail : MethodName := ⟨RX5, "fail", "(II)V"⟩
abbrev cX5_byteAt : ByteArray := prog_7_method_4_code
def yX5_byteAt : MethodName := ⟨RX5, "byteAt", "(I)I"⟩
abbrev cX5_here : ByteArray := prog_7_method_5_code
def yX5_here : MethodName := ⟨RX5, "here", "()I"⟩
abbrev cX5_isBlank : ByteArray := prog_7_method_6_code
def yX5_isBlank : MethodName := ⟨RX5, "isBlank", "()Z"⟩
abbrev cX5_skipBlanks : ByteArray := prog_7_method_7_code
def yX5_skipBlanks : MethodName := ⟨RX5, "skipBlanks", "()V"⟩
abbrev cX5_expect : ByteArray := prog_7_method_8_code
def yX5_expect : MethodName := ⟨RX5, "expect", "(I)V"⟩
abbrev cX5_expectWord : ByteArray := prog_7_method_9_code
def yX5_expectWord : MethodName := ⟨RX5, "expectWord", "(Ljava/lang/String;)V"⟩
abbrev cX5_isWord : ByteArray := prog_7_method_10_code
def yX5_isWord : MethodName := ⟨RX5, "isWord", "(IILjava/lang/String;)Z"⟩
abbrev cX5_takeComma : ByteArray := prog_7_method_11_code
def yX5_takeComma : MethodName := ⟨RX5, "takeComma", "()Z"⟩
abbrev cX5_wholeNumber : ByteArray := prog_7_method_12_code
def yX5_wholeNumber : MethodName := ⟨RX5, "wholeNumber", "(Z)J"⟩
abbrev cX5_keep : ByteArray := prog_7_method_13_code
def yX5_keep : MethodName := ⟨RX5, "keep", "(I)V"⟩
abbrev cX5_kept : ByteArray := prog_7_method_14_code
def yX5_kept : MethodName := ⟨RX5, "kept", "()[I"⟩
abbrev cX5_string : ByteArray := prog_7_method_15_code
def yX5_string : MethodName := ⟨RX5, "string", "()[I"⟩
abbrev cX5_plainName : ByteArray := prog_7_method_16_code
def yX5_plainName : MethodName := ⟨RX5, "plainName", "()[I"⟩
abbrev cX5_isNamed : ByteArray := prog_7_method_17_code
def yX5_isNamed : MethodName := ⟨RX5, "isNamed", "(IZ)Z"⟩
abbrev cX5_escaped : ByteArray := prog_7_method_18_code
def yX5_escaped : MethodName := ⟨RX5, "escaped", "(I)I"⟩
abbrev cX5_control : ByteArray := prog_7_method_19_code
def yX5_control : MethodName := ⟨RX5, "control", "(I)I"⟩
abbrev cX5_hexFour : ByteArray := prog_7_method_20_code
def yX5_hexFour : MethodName := ⟨RX5, "hexFour", "(Z)I"⟩
abbrev cX5_hexValue : ByteArray := prog_7_method_21_code
def yX5_hexValue : MethodName := ⟨RX5, "hexValue", "(I)I"⟩
abbrev cX5_codePoint : ByteArray := prog_7_method_22_code
def yX5_codePoint : MethodName := ⟨RX5, "codePoint", "()I"⟩
abbrev cX5_followers : ByteArray := prog_7_method_23_code
def yX5_followers : MethodName := ⟨RX5, "followers", "(I)I"⟩
abbrev cX5_isShortest : ByteArray := prog_7_method_24_code
def yX5_isShortest : MethodName := ⟨RX5, "isShortest", "(II)Z"⟩
def RX6 : String := "PathHouse$Row"
def TX6 : u_T := fun k => match k with
  | 0 => ("PathHouse$Row", "nodes", "[LPathHouse$Node;", true)
  | _ => ("PathHouse$Row", "count", "I", false)
def tyX6 : Nat → FieldType := fun k => match k with
  | 0 => .array (.object "PathHouse$Node")
  | _ => .int
theorem nmX6 : ∀ a, a < 2 → ∀ b, b < 2 → a ≠ b → (TX6 a).2.1 ≠ (TX6 b).2.1 := by decide +kernel
theorem tyX6_ok : ∀ k, k < 2 → parseFieldDescriptor (TX6 k).2.2.1 = some (tyX6 k) := by decide +kernel
abbrev cX6_init : ByteArray := prog_8_method_1_code
def yX6_init : MethodName := ⟨RX6, "<init>", "()V"⟩
abbrev cX6_get : ByteArray := prog_8_method_2_code
def yX6_get : MethodName := ⟨RX6, "get", "(I)LPathHouse$Node;"⟩
abbrev cX6_add : ByteArray := prog_8_method_3_code
def yX6_add : MethodName := ⟨RX6, "add", "(LPathHouse$Node;)Z"⟩
def RX7 : String := "PathHouse$Segment"
def TX7 : u_T := fun k => match k with
  | 0 => ("PathHouse$Segment", "selectors", "Ljava/util/ArrayList;", true)
  | _ => ("PathHouse$Segment", "deep", "Z", false)
def tyX7 : Nat → FieldType := fun k => match k with
  | 0 => .object "java/util/ArrayList"
  | _ => .boolean
theorem nmX7 : ∀ a, a < 2 → ∀ b, b < 2 → a ≠ b → (TX7 a).2.1 ≠ (TX7 b).2.1 := by decide +kernel
theorem tyX7_ok : ∀ k, k < 2 → parseFieldDescriptor (TX7 k).2.2.1 = some (tyX7 k) := by decide +kernel
abbrev cX7_init : ByteArray := prog_9_method_1_code
def yX7_init : MethodName := ⟨RX7, "<init>", "()V"⟩
def RX8 : String := "PathHouse$Selector"
def TX8 : u_T := fun k => match k with
  | 0 => ("PathHouse$Selector", "kind", "I", true)
  | 1 => ("PathHouse$Selector", "name", "[I", false)
  | 2 => ("PathHouse$Selector", "hasStart", "Z", false)
  | 3 => ("PathHouse$Selector", "hasEnd", "Z", false)
  | 4 => ("PathHouse$Selector", "start", "J", false)
  | 5 => ("PathHouse$Selector", "end", "J", false)
  | 6 => ("PathHouse$Selector", "step", "J", false)
  | _ => ("PathHouse$Selector", "filter", "LPathHouse$Term;", false)
def tyX8 : Nat → FieldType := fun k => match k with
  | 0 => .int
  | 1 => .array .int
  | 2 => .boolean
  | 3 => .boolean
  | 4 => .long
  | 5 => .long
  | 6 => .long
  | _ => .object "PathHouse$Term"
theorem nmX8 : ∀ a, a < 8 → ∀ b, b < 8 → a ≠ b → (TX8 a).2.1 ≠ (TX8 b).2.1 := by decide +kernel
theorem tyX8_ok : ∀ k, k < 8 → parseFieldDescriptor (TX8 k).2.2.1 = some (tyX8 k) := by decide +kernel
abbrev cX8_init : ByteArray := prog_10_method_1_code
def yX8_init : MethodName := ⟨RX8, "<init>", "(I)V"⟩
abbrev cX8_isSingular : ByteArray := prog_10_method_2_code
def yX8_isSingular : MethodName := ⟨RX8, "isSingular", "()Z"⟩
def RX9 : String := "PathHouse$Term"
def TX9 : u_T := fun k => match k with
  | 0 => ("PathHouse$Term", "kind", "I", true)
  | 1 => ("PathHouse$Term", "place", "I", true)
  | 2 => ("PathHouse$Term", "parts", "Ljava/util/ArrayList;", true)
  | 3 => ("PathHouse$Term", "negated", "Z", false)
  | 4 => ("PathHouse$Term", "operator", "I", false)
  | 5 => ("PathHouse$Term", "left", "LPathHouse$Term;", false)
  | 6 => ("PathHouse$Term", "right", "LPathHouse$Term;", false)
  | 7 => ("PathHouse$Term", "nodes", "LPathHouse$Path;", false)
  | _ => ("PathHouse$Term", "own", "LPathHouse$Node;", false)
def tyX9 : Nat → FieldType := fun k => match k with
  | 0 => .int
  | 1 => .int
  | 2 => .object "java/util/ArrayList"
  | 3 => .boolean
  | 4 => .int
  | 5 => .object "PathHouse$Term"
  | 6 => .object "PathHouse$Term"
  | 7 => .object "PathHouse$Path"
  | _ => .object "PathHouse$Node"
theorem nmX9 : ∀ a, a < 9 → ∀ b, b < 9 → a ≠ b → (TX9 a).2.1 ≠ (TX9 b).2.1 := by decide +kernel
theorem tyX9_ok : ∀ k, k < 9 → parseFieldDescriptor (TX9 k).2.2.1 = some (tyX9 k) := by decide +kernel
abbrev cX9_init : ByteArray := prog_11_method_1_code
def yX9_init : MethodName := ⟨RX9, "<init>", "(II)V"⟩
abbrev cX9_partCount : ByteArray := prog_11_method_2_code
def yX9_partCount : MethodName := ⟨RX9, "partCount", "()I"⟩
abbrev cX9_part : ByteArray := prog_11_method_3_code
def yX9_part : MethodName := ⟨RX9, "part", "(I)LPathHouse$Term;"⟩
abbrev cX9_simplest : ByteArray := prog_11_method_4_code
def yX9_simplest : MethodName := ⟨RX9, "simplest", "()LPathHouse$Term;"⟩
abbrev cX9_isFunction : ByteArray := prog_11_method_5_code
def yX9_isFunction : MethodName := ⟨RX9, "isFunction", "()Z"⟩
abbrev cX9_isComparable : ByteArray := prog_11_method_6_code
def yX9_isComparable : MethodName := ⟨RX9, "isComparable", "()Z"⟩
abbrev cX9_wants : ByteArray := prog_11_method_7_code
def yX9_wants : MethodName := ⟨RX9, "wants", "(LPathHouse$Term;)Z"⟩
def RX10 : String := "PathHouse$ValueReader"
def TX10 : u_T := fun k => match k with
  | 0 => ("PathHouse$ValueReader", "in", "LPathHouse$Reader;", true)
  | 1 => ("PathHouse$ValueReader", "count", "I", false)
  | _ => ("PathHouse$ValueReader", "latest", "LPathHouse$Node;", false)
def tyX10 : Nat → FieldType := fun k => match k with
  | 0 => .object "PathHouse$Reader"
  | 1 => .int
  | _ => .object "PathHouse$Node"
theorem nmX10 : ∀ a, a < 3 → ∀ b, b < 3 → a ≠ b → (TX10 a).2.1 ≠ (TX10 b).2.1 := by decide +kernel
theorem tyX10_ok : ∀ k, k < 3 → parseFieldDescriptor (TX10 k).2.2.1 = some (tyX10 k) := by decide +kernel
abbrev cX10_init : ByteArray := prog_12_method_1_code
def yX10_init : MethodName := ⟨RX10, "<init>", "(LPathHouse$Reader;)V"⟩
abbrev cX10_whole : ByteArray := prog_12_method_2_code
def yX10_whole : MethodName := ⟨RX10, "whole", "()LPathHouse$Node;"⟩
abbrev cX10_readNode : ByteArray := prog_12_method_3_code
def yX10_readNode : MethodName := ⟨RX10, "readNode", "(LPathHouse$Node;I)LPathHouse$Node;"⟩
abbrev cX10_kindBegunBy : ByteArray := prog_12_method_4_code
def yX10_kindBegunBy : MethodName := ⟨RX10, "kindBegunBy", "(I)I"⟩
abbrev cX10_readRest : ByteArray := prog_12_method_5_code
def yX10_readRest : MethodName := ⟨RX10, "readRest", "(LPathHouse$Node;)V"⟩
abbrev cX10_readInt : ByteArray := prog_12_method_6_code
def yX10_readInt : MethodName := ⟨RX10, "readInt", "()J"⟩
abbrev cX10_takesEmpty : ByteArray := prog_12_method_7_code
def yX10_takesEmpty : MethodName := ⟨RX10, "takesEmpty", "(I)Z"⟩
abbrev cX10_readElements : ByteArray := prog_12_method_8_code
def yX10_readElements : MethodName := ⟨RX10, "readElements", "(LPathHouse$Node;)V"⟩
abbrev cX10_readMembers : ByteArray := prog_12_method_9_code
def yX10_readMembers : MethodName := ⟨RX10, "readMembers", "(LPathHouse$Node;)V"⟩
abbrev cX10_readMember : ByteArray := prog_12_method_10_code
def yX10_readMember : MethodName := ⟨RX10, "readMember", "(LPathHouse$Node;)V"⟩
def RX11 : String := "PathHouse"
def TX11 : u_T := fun k => match k with
  | 0 => ("PathHouse", "tape", "[B", true)
  | 1 => ("PathHouse", "reader", "LPathHouse$Reader;", true)
  | 2 => ("PathHouse", "valueReader", "LPathHouse$ValueReader;", true)
  | 3 => ("PathHouse", "queryReader", "LPathHouse$QueryReader;", true)
  | 4 => ("PathHouse", "finder", "LPathHouse$Finder;", true)
  | 5 => ("PathHouse", "written", "LPathHouse$Out;", true)
  | 6 => ("PathHouse", "taped", "I", false)
  | 7 => ("PathHouse", "hasRead", "Z", false)
  | 8 => ("PathHouse", "value", "LPathHouse$Node;", false)
  | _ => ("PathHouse", "asked", "LPathHouse$Path;", false)
def tyX11 : Nat → FieldType := fun k => match k with
  | 0 => .array .byte
  | 1 => .object "PathHouse$Reader"
  | 2 => .object "PathHouse$ValueReader"
  | 3 => .object "PathHouse$QueryReader"
  | 4 => .object "PathHouse$Finder"
  | 5 => .object "PathHouse$Out"
  | 6 => .int
  | 7 => .boolean
  | 8 => .object "PathHouse$Node"
  | _ => .object "PathHouse$Path"
theorem nmX11 : ∀ a, a < 10 → ∀ b, b < 10 → a ≠ b → (TX11 a).2.1 ≠ (TX11 b).2.1 := by decide +kernel
theorem tyX11_ok : ∀ k, k < 10 → parseFieldDescriptor (TX11 k).2.2.1 = some (tyX11 k) := by decide +kernel
abbrev cX11_init : ByteArray := prog_1_method_1_code
def yX11_init : MethodName := ⟨RX11, "<init>", "()V"⟩
abbrev cX11_feed : ByteArray := prog_1_method_2_code
def yX11_feed : MethodName := ⟨RX11, "feed", "(IIIII)I"⟩
abbrev cX11_json : ByteArray := prog_1_method_3_code
def yX11_json : MethodName := ⟨RX11, "json", "(I)I"⟩
abbrev cX11_query : ByteArray := prog_1_method_4_code
def yX11_query : MethodName := ⟨RX11, "query", "(I)I"⟩
abbrev cX11_fault : ByteArray := prog_1_method_5_code
def yX11_fault : MethodName := ⟨RX11, "fault", "(I)I"⟩
abbrev cX11_find : ByteArray := prog_1_method_6_code
def yX11_find : MethodName := ⟨RX11, "find", "()I"⟩
abbrev cX11_found : ByteArray := prog_1_method_7_code
def yX11_found : MethodName := ⟨RX11, "found", "(II)I"⟩
abbrev cX11_number : ByteArray := prog_1_method_8_code
def yX11_number : MethodName := ⟨RX11, "number", "(I)J"⟩
abbrev cX11_path : ByteArray := prog_1_method_9_code
def yX11_path : MethodName := ⟨RX11, "path", "(I)I"⟩
abbrev cX11_text : ByteArray := prog_1_method_10_code
def yX11_text : MethodName := ⟨RX11, "text", "(I)I"⟩
abbrev cX11_out : ByteArray := prog_1_method_11_code
def yX11_out : MethodName := ⟨RX11, "out", "(I)I"⟩
abbrev cX11_about : ByteArray := prog_1_method_12_code
def yX11_about : MethodName := ⟨RX11, "about", "(I)I"⟩
abbrev cX11_tapeFour : ByteArray := prog_1_method_13_code
def yX11_tapeFour : MethodName := ⟨RX11, "tapeFour", "(I)V"⟩
abbrev cX11_begin : ByteArray := prog_1_method_14_code
def yX11_begin : MethodName := ⟨RX11, "begin", "(I)Z"⟩
abbrev cX11_isDigit : ByteArray := prog_1_method_15_code
def yX11_isDigit : MethodName := ⟨RX11, "isDigit", "(I)Z"⟩
abbrev cX11_isSmall : ByteArray := prog_1_method_16_code
def yX11_isSmall : MethodName := ⟨RX11, "isSmall", "(I)Z"⟩
abbrev cX11_isLetter : ByteArray := prog_1_method_17_code
def yX11_isLetter : MethodName := ⟨RX11, "isLetter", "(I)Z"⟩
abbrev cX11_isBeyond : ByteArray := prog_1_method_18_code
def yX11_isBeyond : MethodName := ⟨RX11, "isBeyond", "(J)Z"⟩
abbrev cX11_sameChars : ByteArray := prog_1_method_19_code
def yX11_sameChars : MethodName := ⟨RX11, "sameChars", "([I[I)Z"⟩
abbrev cX11_charsBefore : ByteArray := prog_1_method_20_code
def yX11_charsBefore : MethodName := ⟨RX11, "charsBefore", "([I[I)Z"⟩
def RX12 : String := "PathHouseModel$Parts"
def TX12 : u_T := fun k => match k with
  | 0 => ("PathHouseModel$Parts", "kind", "[I", true)
  | 1 => ("PathHouseModel$Parts", "one", "[I", true)
  | 2 => ("PathHouseModel$Parts", "two", "[I", true)
  | 3 => ("PathHouseModel$Parts", "next", "[I", true)
  | 4 => ("PathHouseModel$Parts", "own", "[I", true)
  | 5 => ("PathHouseModel$Parts", "a", "[J", true)
  | 6 => ("PathHouseModel$Parts", "b", "[J", true)
  | 7 => ("PathHouseModel$Parts", "c", "[J", true)
  | 8 => ("PathHouseModel$Parts", "many", "I", false)
  | 9 => ("PathHouseModel$Parts", "first", "I", false)
  | 10 => ("PathHouseModel$Parts", "segments", "I", false)
  | _ => ("PathHouseModel$Parts", "single", "Z", false)
def tyX12 : Nat → FieldType := fun k => match k with
  | 0 => .array .int
  | 1 => .array .int
  | 2 => .array .int
  | 3 => .array .int
  | 4 => .array .int
  | 5 => .array .long
  | 6 => .array .long
  | 7 => .array .long
  | 8 => .int
  | 9 => .int
  | 10 => .int
  | _ => .boolean
theorem nmX12 : ∀ a, a < 12 → ∀ b, b < 12 → a ≠ b → (TX12 a).2.1 ≠ (TX12 b).2.1 := by decide +kernel
theorem tyX12_ok : ∀ k, k < 12 → parseFieldDescriptor (TX12 k).2.2.1 = some (tyX12 k) := by decide +kernel
abbrev cX12_init : ByteArray := prog_15_method_1_code
def yX12_init : MethodName := ⟨RX12, "<init>", "()V"⟩
def RX13 : String := "PathHouseModel$Rows"
def TX13 : u_T := fun k => match k with
  | 0 => ("PathHouseModel$Rows", "kind", "[I", true)
  | 1 => ("PathHouseModel$Rows", "first", "[I", true)
  | 2 => ("PathHouseModel$Rows", "last", "[I", true)
  | 3 => ("PathHouseModel$Rows", "next", "[I", true)
  | 4 => ("PathHouseModel$Rows", "up", "[I", true)
  | 5 => ("PathHouseModel$Rows", "size", "[I", true)
  | 6 => ("PathHouseModel$Rows", "place", "[I", true)
  | 7 => ("PathHouseModel$Rows", "deep", "[I", true)
  | 8 => ("PathHouseModel$Rows", "text", "[I", true)
  | 9 => ("PathHouseModel$Rows", "name", "[I", true)
  | 10 => ("PathHouseModel$Rows", "nameSize", "[I", true)
  | 11 => ("PathHouseModel$Rows", "number", "[J", true)
  | 12 => ("PathHouseModel$Rows", "many", "I", false)
  | _ => ("PathHouseModel$Rows", "deepest", "I", false)
def tyX13 : Nat → FieldType := fun k => match k with
  | 0 => .array .int
  | 1 => .array .int
  | 2 => .array .int
  | 3 => .array .int
  | 4 => .array .int
  | 5 => .array .int
  | 6 => .array .int
  | 7 => .array .int
  | 8 => .array .int
  | 9 => .array .int
  | 10 => .array .int
  | 11 => .array .long
  | 12 => .int
  | _ => .int
theorem nmX13 : ∀ a, a < 14 → ∀ b, b < 14 → a ≠ b → (TX13 a).2.1 ≠ (TX13 b).2.1 := by decide +kernel
theorem tyX13_ok : ∀ k, k < 14 → parseFieldDescriptor (TX13 k).2.2.1 = some (tyX13 k) := by decide +kernel
abbrev cX13_init : ByteArray := prog_16_method_1_code
def yX13_init : MethodName := ⟨RX13, "<init>", "()V"⟩
def RX14 : String := "PathHouseModel$Stop"
def TX14 : u_T := fun k => match k with
  | 0 => ("java/lang/Throwable", "cause", "Ljava/lang/Throwable;", false)
  | 1 => ("java/lang/Throwable", "stackTrace", "[Ljava/lang/StackTraceElement;", false)
  | 2 => ("java/lang/Throwable", "suppressedExceptions", "Ljava/util/List;", false)
  | 3 => ("java/lang/Throwable", "detailMessage", "Ljava/lang/String;", false)
  | 4 => ("java/lang/Throwable", "backtrace", "Ljava/lang/Object;", false)
  | 5 => ("java/lang/Throwable", "depth", "I", false)
  | 6 => ("PathHouseModel$Stop", "kind", "I", false)
  | _ => ("PathHouseModel$Stop", "place", "I", false)
def tyX14 : Nat → FieldType := fun k => match k with
  | 0 => .object "java/lang/Throwable"
  | 1 => .array (.object "java/lang/StackTraceElement")
  | 2 => .object "java/util/List"
  | 3 => .object "java/lang/String"
  | 4 => .object "java/lang/Object"
  | 5 => .int
  | 6 => .int
  | _ => .int
theorem nmX14 : ∀ a, a < 8 → ∀ b, b < 8 → a ≠ b → (TX14 a).2.1 ≠ (TX14 b).2.1 := by decide +kernel
theorem tyX14_ok : ∀ k, k < 8 → parseFieldDescriptor (TX14 k).2.2.1 = some (tyX14 k) := by decide +kernel
abbrev cX14_init : ByteArray := prog_17_method_1_code
def yX14_init : MethodName := ⟨RX14, "<init>", "()V"⟩
def RX15 : String := "PathHouseModel"
def TX15 : u_T := fun k => match k with
  | 0 => ("PathHouseModel", "thrown", "I", false)
  | 1 => ("PathHouseModel", "stop", "LPathHouseModel$Stop;", true)
  | 2 => ("PathHouseModel", "tape", "[B", true)
  | 3 => ("PathHouseModel", "taped", "I", false)
  | 4 => ("PathHouseModel", "length", "I", false)
  | 5 => ("PathHouseModel", "at", "I", false)
  | 6 => ("PathHouseModel", "chars", "[I", true)
  | 7 => ("PathHouseModel", "charCount", "I", false)
  | 8 => ("PathHouseModel", "number", "J", false)
  | 9 => ("PathHouseModel", "isFar", "Z", false)
  | 10 => ("PathHouseModel", "v", "LPathHouseModel$Rows;", false)
  | 11 => ("PathHouseModel", "spare", "LPathHouseModel$Rows;", false)
  | 12 => ("PathHouseModel", "hasValue", "Z", false)
  | 13 => ("PathHouseModel", "hasQuery", "Z", false)
  | 14 => ("PathHouseModel", "fault", "I", false)
  | 15 => ("PathHouseModel", "faultPlace", "I", false)
  | 16 => ("PathHouseModel", "q", "LPathHouseModel$Parts;", false)
  | 17 => ("PathHouseModel", "made", "LPathHouseModel$Parts;", false)
  | 18 => ("PathHouseModel", "open", "I", false)
  | 19 => ("PathHouseModel", "lateKind", "I", false)
  | 20 => ("PathHouseModel", "latePlace", "I", false)
  | 21 => ("PathHouseModel", "isSingle", "Z", false)
  | 22 => ("PathHouseModel", "argumentKind", "I", false)
  | 23 => ("PathHouseModel", "looks", "I", false)
  | 24 => ("PathHouseModel", "foundCount", "I", false)
  | 25 => ("PathHouseModel", "found", "[I", true)
  | 26 => ("PathHouseModel", "lists", "[I", true)
  | 27 => ("PathHouseModel", "base", "I", false)
  | 28 => ("PathHouseModel", "listed", "I", false)
  | 29 => ("PathHouseModel", "kind", "I", false)
  | 30 => ("PathHouseModel", "text", "I", false)
  | 31 => ("PathHouseModel", "size", "I", false)
  | 32 => ("PathHouseModel", "which", "I", false)
  | 33 => ("PathHouseModel", "integer", "J", false)
  | 34 => ("PathHouseModel", "out", "[B", true)
  | 35 => ("PathHouseModel", "outs", "I", false)
  | _ => ("PathHouseModel", "way", "[I", true)
def tyX15 : Nat → FieldType := fun k => match k with
  | 0 => .int
  | 1 => .object "PathHouseModel$Stop"
  | 2 => .array .byte
  | 3 => .int
  | 4 => .int
  | 5 => .int
  | 6 => .array .int
  | 7 => .int
  | 8 => .long
  | 9 => .boolean
  | 10 => .object "PathHouseModel$Rows"
  | 11 => .object "PathHouseModel$Rows"
  | 12 => .boolean
  | 13 => .boolean
  | 14 => .int
  | 15 => .int
  | 16 => .object "PathHouseModel$Parts"
  | 17 => .object "PathHouseModel$Parts"
  | 18 => .int
  | 19 => .int
  | 20 => .int
  | 21 => .boolean
  | 22 => .int
  | 23 => .int
  | 24 => .int
  | 25 => .array .int
  | 26 => .array .int
  | 27 => .int
  | 28 => .int
  | 29 => .int
  | 30 => .int
  | 31 => .int
  | 32 => .int
  | 33 => .long
  | 34 => .array .byte
  | 35 => .int
  | _ => .array .int
theorem nmX15 : ∀ a, a < 37 → ∀ b, b < 37 → a ≠ b → (TX15 a).2.1 ≠ (TX15 b).2.1 := by decide +kernel
theorem tyX15_ok : ∀ k, k < 37 → parseFieldDescriptor (TX15 k).2.2.1 = some (tyX15 k) := by decide +kernel
abbrev cX15_init : ByteArray := prog_14_method_1_code
def yX15_init : MethodName := ⟨RX15, "<init>", "()V"⟩
abbrev cX15_thrown : ByteArray := prog_14_method_2_code
def yX15_thrown : MethodName := ⟨RX15, "thrown", "()I"⟩
abbrev cX15_stop : ByteArray := prog_14_method_3_code
def yX15_stop : MethodName := ⟨RX15, "stop", "(II)LPathHouseModel$Stop;"⟩
abbrev cX15_feed : ByteArray := prog_14_method_4_code
def yX15_feed : MethodName := ⟨RX15, "feed", "(IIIII)I"⟩
abbrev cX15_byteAt : ByteArray := prog_14_method_5_code
def yX15_byteAt : MethodName := ⟨RX15, "byteAt", "(I)I"⟩
abbrev cX15_peek : ByteArray := prog_14_method_6_code
def yX15_peek : MethodName := ⟨RX15, "peek", "()I"⟩
abbrev cX15_is : ByteArray := prog_14_method_7_code
def yX15_is : MethodName := ⟨RX15, "is", "(I)Z"⟩
abbrev cX15_bad : ByteArray := prog_14_method_8_code
def yX15_bad : MethodName := ⟨RX15, "bad", "()LPathHouseModel$Stop;"⟩
abbrev cX15_need : ByteArray := prog_14_method_9_code
def yX15_need : MethodName := ⟨RX15, "need", "(I)V"⟩
abbrev cX15_blanks : ByteArray := prog_14_method_10_code
def yX15_blanks : MethodName := ⟨RX15, "blanks", "()V"⟩
abbrev cX15_isDigit : ByteArray := prog_14_method_11_code
def yX15_isDigit : MethodName := ⟨RX15, "isDigit", "(I)Z"⟩
abbrev cX15_isSmall : ByteArray := prog_14_method_12_code
def yX15_isSmall : MethodName := ⟨RX15, "isSmall", "(I)Z"⟩
abbrev cX15_character : ByteArray := prog_14_method_13_code
def yX15_character : MethodName := ⟨RX15, "character", "()I"⟩
abbrev cX15_keep : ByteArray := prog_14_method_14_code
def yX15_keep : MethodName := ⟨RX15, "keep", "(I)V"⟩
abbrev cX15_hex : ByteArray := prog_14_method_15_code
def yX15_hex : MethodName := ⟨RX15, "hex", "(I)I"⟩
abbrev cX15_hexDigit : ByteArray := prog_14_method_16_code
def yX15_hexDigit : MethodName := ⟨RX15, "hexDigit", "(II)I"⟩
abbrev cX15_unit : ByteArray := prog_14_method_17_code
def yX15_unit : MethodName := ⟨RX15, "unit", "()I"⟩
abbrev cX15_escaped : ByteArray := prog_14_method_18_code
def yX15_escaped : MethodName := ⟨RX15, "escaped", "(I)I"⟩
abbrev cX15_string : ByteArray := prog_14_method_19_code
def yX15_string : MethodName := ⟨RX15, "string", "()I"⟩
abbrev cX15_areSame : ByteArray := prog_14_method_20_code
def yX15_areSame : MethodName := ⟨RX15, "areSame", "(IIII)Z"⟩
abbrev cX15_integer : ByteArray := prog_14_method_21_code
def yX15_integer : MethodName := ⟨RX15, "integer", "(Z)V"⟩
abbrev cX15_begins : ByteArray := prog_14_method_22_code
def yX15_begins : MethodName := ⟨RX15, "begins", "(I)Z"⟩
abbrev cX15_word : ByteArray := prog_14_method_23_code
def yX15_word : MethodName := ⟨RX15, "word", "(Ljava/lang/String;)V"⟩
abbrev cX15_value : ByteArray := prog_14_method_24_code
def yX15_value : MethodName := ⟨RX15, "value", "(II)I"⟩
abbrev cX15_hang : ByteArray := prog_14_method_25_code
def yX15_hang : MethodName := ⟨RX15, "hang", "(II)V"⟩
abbrev cX15_array : ByteArray := prog_14_method_26_code
def yX15_array : MethodName := ⟨RX15, "array", "(II)V"⟩
abbrev cX15_object : ByteArray := prog_14_method_27_code
def yX15_object : MethodName := ⟨RX15, "object", "(II)V"⟩
abbrev cX15_told : ByteArray := prog_14_method_28_code
def yX15_told : MethodName := ⟨RX15, "told", "(II)I"⟩
abbrev cX15_json : ByteArray := prog_14_method_29_code
def yX15_json : MethodName := ⟨RX15, "json", "(I)I"⟩
abbrev cX15_fault : ByteArray := prog_14_method_30_code
def yX15_fault : MethodName := ⟨RX15, "fault", "(I)I"⟩
abbrev cX15_part : ByteArray := prog_14_method_31_code
def yX15_part : MethodName := ⟨RX15, "part", "(I)I"⟩
abbrev cX15_late : ByteArray := prog_14_method_32_code
def yX15_late : MethodName := ⟨RX15, "late", "(II)V"⟩
abbrev cX15_opens : ByteArray := prog_14_method_33_code
def yX15_opens : MethodName := ⟨RX15, "opens", "()V"⟩
abbrev cX15_isLetter : ByteArray := prog_14_method_34_code
def yX15_isLetter : MethodName := ⟨RX15, "isLetter", "(I)Z"⟩
abbrev cX15_selected : ByteArray := prog_14_method_35_code
def yX15_selected : MethodName := ⟨RX15, "selected", "()J"⟩
abbrev cX15_isInteger : ByteArray := prog_14_method_36_code
def yX15_isInteger : MethodName := ⟨RX15, "isInteger", "()Z"⟩
abbrev cX15_name : ByteArray := prog_14_method_37_code
def yX15_name : MethodName := ⟨RX15, "name", "(I)I"⟩
abbrev cX15_slice : ByteArray := prog_14_method_38_code
def yX15_slice : MethodName := ⟨RX15, "slice", "(I)I"⟩
abbrev cX15_selector : ByteArray := prog_14_method_39_code
def yX15_selector : MethodName := ⟨RX15, "selector", "(Z)I"⟩
abbrev cX15_bracketed : ByteArray := prog_14_method_40_code
def yX15_bracketed : MethodName := ⟨RX15, "bracketed", "(Z)I"⟩
abbrev cX15_member : ByteArray := prog_14_method_41_code
def yX15_member : MethodName := ⟨RX15, "member", "()I"⟩
abbrev cX15_segments : ByteArray := prog_14_method_42_code
def yX15_segments : MethodName := ⟨RX15, "segments", "(ZZ)I"⟩
abbrev cX15_path : ByteArray := prog_14_method_43_code
def yX15_path : MethodName := ⟨RX15, "path", "(Z)I"⟩
abbrev cX15_isPath : ByteArray := prog_14_method_44_code
def yX15_isPath : MethodName := ⟨RX15, "isPath", "()Z"⟩
abbrev cX15_literal : ByteArray := prog_14_method_45_code
def yX15_literal : MethodName := ⟨RX15, "literal", "()I"⟩
abbrev cX15_isLiteral : ByteArray := prog_14_method_46_code
def yX15_isLiteral : MethodName := ⟨RX15, "isLiteral", "()Z"⟩
abbrev cX15_isWord : ByteArray := prog_14_method_47_code
def yX15_isWord : MethodName := ⟨RX15, "isWord", "(ILjava/lang/String;)Z"⟩
abbrev cX15_worded : ByteArray := prog_14_method_48_code
def yX15_worded : MethodName := ⟨RX15, "worded", "()I"⟩
abbrev cX15_isOrdered : ByteArray := prog_14_method_49_code
def yX15_isOrdered : MethodName := ⟨RX15, "isOrdered", "()Z"⟩
abbrev cX15_sign : ByteArray := prog_14_method_50_code
def yX15_sign : MethodName := ⟨RX15, "sign", "()I"⟩
abbrev cX15_comparable : ByteArray := prog_14_method_51_code
def yX15_comparable : MethodName := ⟨RX15, "comparable", "()I"⟩
abbrev cX15_compared : ByteArray := prog_14_method_52_code
def yX15_compared : MethodName := ⟨RX15, "compared", "(I)I"⟩
abbrev cX15_tested : ByteArray := prog_14_method_53_code
def yX15_tested : MethodName := ⟨RX15, "tested", "(II)I"⟩
abbrev cX15_basicOf : ByteArray := prog_14_method_54_code
def yX15_basicOf : MethodName := ⟨RX15, "basicOf", "(II)I"⟩
abbrev cX15_bracket : ByteArray := prog_14_method_55_code
def yX15_bracket : MethodName := ⟨RX15, "bracket", "()I"⟩
abbrev cX15_basic : ByteArray := prog_14_method_56_code
def yX15_basic : MethodName := ⟨RX15, "basic", "()I"⟩
abbrev cX15_negated : ByteArray := prog_14_method_57_code
def yX15_negated : MethodName := ⟨RX15, "negated", "(I)I"⟩
abbrev cX15_operand : ByteArray := prog_14_method_58_code
def yX15_operand : MethodName := ⟨RX15, "operand", "()I"⟩
abbrev cX15_all : ByteArray := prog_14_method_59_code
def yX15_all : MethodName := ⟨RX15, "all", "(I)I"⟩
abbrev cX15_any : ByteArray := prog_14_method_60_code
def yX15_any : MethodName := ⟨RX15, "any", "(I)I"⟩
abbrev cX15_argument : ByteArray := prog_14_method_61_code
def yX15_argument : MethodName := ⟨RX15, "argument", "()I"⟩
abbrev cX15_function : ByteArray := prog_14_method_62_code
def yX15_function : MethodName := ⟨RX15, "function", "(I)I"⟩
abbrev cX15_query : ByteArray := prog_14_method_63_code
def yX15_query : MethodName := ⟨RX15, "query", "(I)I"⟩
abbrev cX15_look : ByteArray := prog_14_method_64_code
def yX15_look : MethodName := ⟨RX15, "look", "()V"⟩
abbrev cX15_comes : ByteArray := prog_14_method_65_code
def yX15_comes : MethodName := ⟨RX15, "comes", "(I)V"⟩
abbrev cX15_nodes : ByteArray := prog_14_method_66_code
def yX15_nodes : MethodName := ⟨RX15, "nodes", "(III)I"⟩
abbrev cX15_down : ByteArray := prog_14_method_67_code
def yX15_down : MethodName := ⟨RX15, "down", "(III)V"⟩
abbrev cX15_asked : ByteArray := prog_14_method_68_code
def yX15_asked : MethodName := ⟨RX15, "asked", "(III)V"⟩
abbrev cX15_named : ByteArray := prog_14_method_69_code
def yX15_named : MethodName := ⟨RX15, "named", "(III)I"⟩
abbrev cX15_element : ByteArray := prog_14_method_70_code
def yX15_element : MethodName := ⟨RX15, "element", "(II)I"⟩
abbrev cX15_within : ByteArray := prog_14_method_71_code
def yX15_within : MethodName := ⟨RX15, "within", "(JJJ)J"⟩
abbrev cX15_sliced : ByteArray := prog_14_method_72_code
def yX15_sliced : MethodName := ⟨RX15, "sliced", "(II)V"⟩
abbrev cX15_filtered : ByteArray := prog_14_method_73_code
def yX15_filtered : MethodName := ⟨RX15, "filtered", "(III)V"⟩
abbrev cX15_isTrue : ByteArray := prog_14_method_74_code
def yX15_isTrue : MethodName := ⟨RX15, "isTrue", "(III)Z"⟩
abbrev cX15_pathOf : ByteArray := prog_14_method_75_code
def yX15_pathOf : MethodName := ⟨RX15, "pathOf", "(III)I"⟩
abbrev cX15_ofValue : ByteArray := prog_14_method_76_code
def yX15_ofValue : MethodName := ⟨RX15, "ofValue", "(I)V"⟩
abbrev cX15_ofNumber : ByteArray := prog_14_method_77_code
def yX15_ofNumber : MethodName := ⟨RX15, "ofNumber", "(J)V"⟩
abbrev cX15_comesTo : ByteArray := prog_14_method_78_code
def yX15_comesTo : MethodName := ⟨RX15, "comesTo", "(III)V"⟩
abbrev cX15_compares : ByteArray := prog_14_method_79_code
def yX15_compares : MethodName := ⟨RX15, "compares", "(III)Z"⟩
abbrev cX15_isLess : ByteArray := prog_14_method_80_code
def yX15_isLess : MethodName := ⟨RX15, "isLess", "(IJIIIJII)Z"⟩
abbrev cX15_alike : ByteArray := prog_14_method_81_code
def yX15_alike : MethodName := ⟨RX15, "alike", "(IJIIIIJIII)Z"⟩
abbrev cX15_areAlike : ByteArray := prog_14_method_82_code
def yX15_areAlike : MethodName := ⟨RX15, "areAlike", "(II)Z"⟩
abbrev cX15_areSameValues : ByteArray := prog_14_method_83_code
def yX15_areSameValues : MethodName := ⟨RX15, "areSameValues", "(II)Z"⟩
abbrev cX15_find : ByteArray := prog_14_method_84_code
def yX15_find : MethodName := ⟨RX15, "find", "()I"⟩
abbrev cX15_isFound : ByteArray := prog_14_method_85_code
def yX15_isFound : MethodName := ⟨RX15, "isFound", "(I)Z"⟩
abbrev cX15_steps : ByteArray := prog_14_method_86_code
def yX15_steps : MethodName := ⟨RX15, "steps", "(I)I"⟩
abbrev cX15_found : ByteArray := prog_14_method_87_code
def yX15_found : MethodName := ⟨RX15, "found", "(II)I"⟩
abbrev cX15_number : ByteArray := prog_14_method_88_code
def yX15_number : MethodName := ⟨RX15, "number", "(I)J"⟩
abbrev cX15_put : ByteArray := prog_14_method_89_code
def yX15_put : MethodName := ⟨RX15, "put", "(I)V"⟩
abbrev cX15_say : ByteArray := prog_14_method_90_code
def yX15_say : MethodName := ⟨RX15, "say", "(Ljava/lang/String;)V"⟩
abbrev cX15_sayNumber : ByteArray := prog_14_method_91_code
def yX15_sayNumber : MethodName := ⟨RX15, "sayNumber", "(J)V"⟩
abbrev cX15_sayCharacter : ByteArray := prog_14_method_92_code
def yX15_sayCharacter : MethodName := ⟨RX15, "sayCharacter", "(II)V"⟩
abbrev cX15_sayText : ByteArray := prog_14_method_93_code
def yX15_sayText : MethodName := ⟨RX15, "sayText", "(III)V"⟩
abbrev cX15_path_ : ByteArray := prog_14_method_94_code
def yX15_path_ : MethodName := ⟨RX15, "path", "(I)I"⟩
abbrev cX15_sayValue : ByteArray := prog_14_method_95_code
def yX15_sayValue : MethodName := ⟨RX15, "sayValue", "(I)V"⟩
abbrev cX15_text : ByteArray := prog_14_method_96_code
def yX15_text : MethodName := ⟨RX15, "text", "(I)I"⟩
abbrev cX15_out : ByteArray := prog_14_method_97_code
def yX15_out : MethodName := ⟨RX15, "out", "(I)I"⟩
abbrev cX15_about : ByteArray := prog_14_method_98_code
def yX15_about : MethodName := ⟨RX15, "about", "(I)I"⟩
def RJx145de : String := "java/io/Serializable"
def TJx145de : u_T := fun k => match k with
  | _ => ("", "", "", false)
def tyJx145de : Nat → FieldType := fun k => match k with
  | _ => .int
theorem nmJx145de : ∀ a, a < 0 → ∀ b, b < 0 → a ≠ b → (TJx145de a).2.1 ≠ (TJx145de b).2.1 := by decide +kernel
theorem tyJx145de_ok : ∀ k, k < 0 → parseFieldDescriptor (TJx145de k).2.2.1 = some (tyJx145de k) := by decide +kernel
def RJx8e188 : String := "java/lang/Cloneable"
def TJx8e188 : u_T := fun k => match k with
  | _ => ("", "", "", false)
def tyJx8e188 : Nat → FieldType := fun k => match k with
  | _ => .int
theorem nmJx8e188 : ∀ a, a < 0 → ∀ b, b < 0 → a ≠ b → (TJx8e188 a).2.1 ≠ (TJx8e188 b).2.1 := by decide +kernel
theorem tyJx8e188_ok : ∀ k, k < 0 → parseFieldDescriptor (TJx8e188 k).2.2.1 = some (tyJx8e188 k) := by decide +kernel
def RJxab1ab : String := "java/lang/Iterable"
def TJxab1ab : u_T := fun k => match k with
  | _ => ("", "", "", false)
def tyJxab1ab : Nat → FieldType := fun k => match k with
  | _ => .int
theorem nmJxab1ab : ∀ a, a < 0 → ∀ b, b < 0 → a ≠ b → (TJxab1ab a).2.1 ≠ (TJxab1ab b).2.1 := by decide +kernel
theorem tyJxab1ab_ok : ∀ k, k < 0 → parseFieldDescriptor (TJxab1ab k).2.2.1 = some (tyJxab1ab k) := by decide +kernel
def RJ9 : String := "java/lang/Math"
def TJ9 : u_T := fun k => match k with
  | _ => ("", "", "", false)
def tyJ9 : Nat → FieldType := fun k => match k with
  | _ => .int
theorem nmJ9 : ∀ a, a < 0 → ∀ b, b < 0 → a ≠ b → (TJ9 a).2.1 ≠ (TJ9 b).2.1 := by decide +kernel
theorem tyJ9_ok : ∀ k, k < 0 → parseFieldDescriptor (TJ9 k).2.2.1 = some (tyJ9 k) := by decide +kernel
abbrev cJ9_abs_067f4 : ByteArray := prog_24_method_61_code
def yJ9_abs_067f4 : MethodName := ⟨RJ9, "abs", "(J)J"⟩
abbrev cJ9_max_7cf53 : ByteArray := prog_24_method_65_code
def yJ9_max_7cf53 : MethodName := ⟨RJ9, "max", "(II)I"⟩
abbrev cJ9_max_f86c9 : ByteArray := prog_24_method_66_code
def yJ9_max_f86c9 : MethodName := ⟨RJ9, "max", "(JJ)J"⟩
abbrev cJ9_min_7cf53 : ByteArray := prog_24_method_69_code
def yJ9_min_7cf53 : MethodName := ⟨RJ9, "min", "(II)I"⟩
abbrev cJ9_min_f86c9 : ByteArray := prog_24_method_70_code
def yJ9_min_f86c9 : MethodName := ⟨RJ9, "min", "(JJ)J"⟩
def RJ0 : String := "java/lang/String"
def TJ0 : u_T := fun k => match k with
  | _ => ("", "", "", false)
def tyJ0 : Nat → FieldType := fun k => match k with
  | _ => .int
theorem nmJ0 : ∀ a, a < 0 → ∀ b, b < 0 → a ≠ b → (TJ0 a).2.1 ≠ (TJ0 b).2.1 := by decide +kernel
theorem tyJ0_ok : ∀ k, k < 0 → parseFieldDescriptor (TJ0 k).2.2.1 = some (tyJ0 k) := by decide +kernel
abbrev cJ0_length_8abf5 : ByteArray := prog_26_method_54_code
def yJ0_length_8abf5 : MethodName := ⟨RJ0, "length", "()I"⟩
abbrev cJ0_charAt_5068e : ByteArray := prog_26_method_56_code
def yJ0_charAt_5068e : MethodName := ⟨RJ0, "charAt", "(I)C"⟩
abbrev cJ0_coder_7d493 : ByteArray := prog_26_method_152_code
def yJ0_coder_7d493 : MethodName := ⟨RJ0, "coder", "()B"⟩
abbrev cJ0_isLatin1_aae02 : ByteArray := prog_26_method_154_code
def yJ0_isLatin1_aae02 : MethodName := ⟨RJ0, "isLatin1", "()Z"⟩
abbrev cJ0_checkIndex_df160 : ByteArray := prog_26_method_155_code
def yJ0_checkIndex_df160 : MethodName := ⟨RJ0, "checkIndex", "(II)V"⟩
def RJ1 : String := "java/lang/StringLatin1"
def TJ1 : u_T := fun k => match k with
  | _ => ("", "", "", false)
def tyJ1 : Nat → FieldType := fun k => match k with
  | _ => .int
theorem nmJ1 : ∀ a, a < 0 → ∀ b, b < 0 → a ≠ b → (TJ1 a).2.1 ≠ (TJ1 b).2.1 := by decide +kernel
theorem tyJ1_ok : ∀ k, k < 0 → parseFieldDescriptor (TJ1 k).2.2.1 = some (tyJ1 k) := by decide +kernel
abbrev cJ1_charAt_3b067 : ByteArray := prog_27_method_2_code
def yJ1_charAt_3b067 : MethodName := ⟨RJ1, "charAt", "([BI)C"⟩
def RJ2 : String := "java/lang/StringUTF16"
def TJ2 : u_T := fun k => match k with
  | _ => ("", "", "", false)
def tyJ2 : Nat → FieldType := fun k => match k with
  | _ => .int
theorem nmJ2 : ∀ a, a < 0 → ∀ b, b < 0 → a ≠ b → (TJ2 a).2.1 ≠ (TJ2 b).2.1 := by decide +kernel
theorem tyJ2_ok : ∀ k, k < 0 → parseFieldDescriptor (TJ2 k).2.2.1 = some (tyJ2 k) := by decide +kernel
abbrev cJ2_getChar_3b067 : ByteArray := prog_28_method_5_code
def yJ2_getChar_3b067 : MethodName := ⟨RJ2, "getChar", "([BI)C"⟩
abbrev cJ2_length_9d52b : ByteArray := prog_28_method_6_code
def yJ2_length_9d52b : MethodName := ⟨RJ2, "length", "([B)I"⟩
abbrev cJ2_charAt_3b067 : ByteArray := prog_28_method_83_code
def yJ2_charAt_3b067 : MethodName := ⟨RJ2, "charAt", "([BI)C"⟩
abbrev cJ2_checkIndex_2214a : ByteArray := prog_28_method_91_code
def yJ2_checkIndex_2214a : MethodName := ⟨RJ2, "checkIndex", "(I[B)V"⟩
def RJ10 : String := "java/lang/System"
def TJ10 : u_T := fun k => match k with
  | _ => ("", "", "", false)
def tyJ10 : Nat → FieldType := fun k => match k with
  | _ => .int
theorem nmJ10 : ∀ a, a < 0 → ∀ b, b < 0 → a ≠ b → (TJ10 a).2.1 ≠ (TJ10 b).2.1 := by decide +kernel
theorem tyJ10_ok : ∀ k, k < 0 → parseFieldDescriptor (TJ10 k).2.2.1 = some (tyJ10 k) := by decide +kernel
def RJxa1e45 : String := "java/util/AbstractCollection"
def TJxa1e45 : u_T := fun k => match k with
  | _ => ("", "", "", false)
def tyJxa1e45 : Nat → FieldType := fun k => match k with
  | _ => .int
theorem nmJxa1e45 : ∀ a, a < 0 → ∀ b, b < 0 → a ≠ b → (TJxa1e45 a).2.1 ≠ (TJxa1e45 b).2.1 := by decide +kernel
theorem tyJxa1e45_ok : ∀ k, k < 0 → parseFieldDescriptor (TJxa1e45 k).2.2.1 = some (tyJxa1e45 k) := by decide +kernel
abbrev cJxa1e45_init_da8c8 : ByteArray := prog_31_method_1_code
def yJxa1e45_init_da8c8 : MethodName := ⟨RJxa1e45, "<init>", "()V"⟩
def RJxc12de : String := "java/util/AbstractList"
def TJxc12de : u_T := fun k => match k with
  | _ => ("", "", "", false)
def tyJxc12de : Nat → FieldType := fun k => match k with
  | _ => .int
theorem nmJxc12de : ∀ a, a < 0 → ∀ b, b < 0 → a ≠ b → (TJxc12de a).2.1 ≠ (TJxc12de b).2.1 := by decide +kernel
theorem tyJxc12de_ok : ∀ k, k < 0 → parseFieldDescriptor (TJxc12de k).2.2.1 = some (tyJxc12de k) := by decide +kernel
abbrev cJxc12de_init_da8c8 : ByteArray := prog_32_method_1_code
def yJxc12de_init_da8c8 : MethodName := ⟨RJxc12de, "<init>", "()V"⟩
def RJx4a65c : String := "java/util/ArrayList"
def TJx4a65c : u_T := fun k => match k with
  | 0 => ("java/util/AbstractList", "modCount", "I", false)
  | 1 => ("java/util/ArrayList", "elementData", "[Ljava/lang/Object;", false)
  | _ => ("java/util/ArrayList", "size", "I", false)
def tyJx4a65c : Nat → FieldType := fun k => match k with
  | 0 => .int
  | 1 => .array (.object "java/lang/Object")
  | _ => .int
theorem nmJx4a65c : ∀ a, a < 3 → ∀ b, b < 3 → a ≠ b → (TJx4a65c a).2.1 ≠ (TJx4a65c b).2.1 := by decide +kernel
theorem tyJx4a65c_ok : ∀ k, k < 3 → parseFieldDescriptor (TJx4a65c k).2.2.1 = some (tyJx4a65c k) := by decide +kernel
abbrev cJx4a65c_init_da8c8 : ByteArray := prog_33_method_2_code
def yJx4a65c_init_da8c8 : MethodName := ⟨RJx4a65c, "<init>", "()V"⟩
abbrev cJx4a65c_grow_92f84 : ByteArray := prog_33_method_6_code
def yJx4a65c_grow_92f84 : MethodName := ⟨RJx4a65c, "grow", "(I)[Ljava/lang/Object;"⟩
abbrev cJx4a65c_grow_d5877 : ByteArray := prog_33_method_7_code
def yJx4a65c_grow_d5877 : MethodName := ⟨RJx4a65c, "grow", "()[Ljava/lang/Object;"⟩
abbrev cJx4a65c_size_8abf5 : ByteArray := prog_33_method_8_code
def yJx4a65c_size_8abf5 : MethodName := ⟨RJx4a65c, "size", "()I"⟩
abbrev cJx4a65c_elementData_915e3 : ByteArray := prog_33_method_18_code
def yJx4a65c_elementData_915e3 : MethodName := ⟨RJx4a65c, "elementData", "(I)Ljava/lang/Object;"⟩
abbrev cJx4a65c_get_915e3 : ByteArray := prog_33_method_20_code
def yJx4a65c_get_915e3 : MethodName := ⟨RJx4a65c, "get", "(I)Ljava/lang/Object;"⟩
abbrev cJx4a65c_add_72be8 : ByteArray := prog_33_method_24_code
def yJx4a65c_add_72be8 : MethodName := ⟨RJx4a65c, "add", "(Ljava/lang/Object;[Ljava/lang/Object;I)V"⟩
abbrev cJx4a65c_add_9ea2d : ByteArray := prog_33_method_25_code
def yJx4a65c_add_9ea2d : MethodName := ⟨RJx4a65c, "add", "(Ljava/lang/Object;)Z"⟩
def RJ7 : String := "java/util/Arrays"
def TJ7 : u_T := fun k => match k with
  | _ => ("", "", "", false)
def tyJ7 : Nat → FieldType := fun k => match k with
  | _ => .int
theorem nmJ7 : ∀ a, a < 0 → ∀ b, b < 0 → a ≠ b → (TJ7 a).2.1 ≠ (TJ7 b).2.1 := by decide +kernel
theorem tyJ7_ok : ∀ k, k < 0 → parseFieldDescriptor (TJ7 k).2.2.1 = some (tyJ7 k) := by decide +kernel
abbrev cJ7_copyOf_1904c : ByteArray := prog_34_method_119_code
def yJ7_copyOf_1904c : MethodName := ⟨RJ7, "copyOf", "([Ljava/lang/Object;I)[Ljava/lang/Object;"⟩
abbrev cJ7_copyOf_6403c : ByteArray := prog_34_method_120_code
def yJ7_copyOf_6403c : MethodName := ⟨RJ7, "copyOf", "([Ljava/lang/Object;ILjava/lang/Class;)[Ljava/lang/Object;"⟩
abbrev cJ7_copyOf_59c91 : ByteArray := prog_34_method_123_code
def yJ7_copyOf_59c91 : MethodName := ⟨RJ7, "copyOf", "([II)[I"⟩
def RJx5ef63 : String := "java/util/Collection"
def TJx5ef63 : u_T := fun k => match k with
  | _ => ("", "", "", false)
def tyJx5ef63 : Nat → FieldType := fun k => match k with
  | _ => .int
theorem nmJx5ef63 : ∀ a, a < 0 → ∀ b, b < 0 → a ≠ b → (TJx5ef63 a).2.1 ≠ (TJx5ef63 b).2.1 := by decide +kernel
theorem tyJx5ef63_ok : ∀ k, k < 0 → parseFieldDescriptor (TJx5ef63 k).2.2.1 = some (tyJx5ef63 k) := by decide +kernel
def RJxbd725 : String := "java/util/List"
def TJxbd725 : u_T := fun k => match k with
  | _ => ("", "", "", false)
def tyJxbd725 : Nat → FieldType := fun k => match k with
  | _ => .int
theorem nmJxbd725 : ∀ a, a < 0 → ∀ b, b < 0 → a ≠ b → (TJxbd725 a).2.1 ≠ (TJxbd725 b).2.1 := by decide +kernel
theorem tyJxbd725_ok : ∀ k, k < 0 → parseFieldDescriptor (TJxbd725 k).2.2.1 = some (tyJxbd725 k) := by decide +kernel
def RJ15 : String := "java/util/Objects"
def TJ15 : u_T := fun k => match k with
  | _ => ("", "", "", false)
def tyJ15 : Nat → FieldType := fun k => match k with
  | _ => .int
theorem nmJ15 : ∀ a, a < 0 → ∀ b, b < 0 → a ≠ b → (TJ15 a).2.1 ≠ (TJ15 b).2.1 := by decide +kernel
theorem tyJ15_ok : ∀ k, k < 0 → parseFieldDescriptor (TJ15 k).2.2.1 = some (tyJ15 k) := by decide +kernel
abbrev cJ15_checkIndex_7cf53 : ByteArray := prog_38_method_17_code
def yJ15_checkIndex_7cf53 : MethodName := ⟨RJ15, "checkIndex", "(II)I"⟩
def RJxf0a74 : String := "java/util/RandomAccess"
def TJxf0a74 : u_T := fun k => match k with
  | _ => ("", "", "", false)
def tyJxf0a74 : Nat → FieldType := fun k => match k with
  | _ => .int
theorem nmJxf0a74 : ∀ a, a < 0 → ∀ b, b < 0 → a ≠ b → (TJxf0a74 a).2.1 ≠ (TJxf0a74 b).2.1 := by decide +kernel
theorem tyJxf0a74_ok : ∀ k, k < 0 → parseFieldDescriptor (TJxf0a74 k).2.2.1 = some (tyJxf0a74 k) := by decide +kernel
def RJxa66e6 : String := "java/util/SequencedCollection"
def TJxa66e6 : u_T := fun k => match k with
  | _ => ("", "", "", false)
def tyJxa66e6 : Nat → FieldType := fun k => match k with
  | _ => .int
theorem nmJxa66e6 : ∀ a, a < 0 → ∀ b, b < 0 → a ≠ b → (TJxa66e6 a).2.1 ≠ (TJxa66e6 b).2.1 := by decide +kernel
theorem tyJxa66e6_ok : ∀ k, k < 0 → parseFieldDescriptor (TJxa66e6 k).2.2.1 = some (tyJxa66e6 k) := by decide +kernel
def RJ8 : String := "jdk/internal/util/ArraysSupport"
def TJ8 : u_T := fun k => match k with
  | _ => ("", "", "", false)
def tyJ8 : Nat → FieldType := fun k => match k with
  | _ => .int
theorem nmJ8 : ∀ a, a < 0 → ∀ b, b < 0 → a ≠ b → (TJ8 a).2.1 ≠ (TJ8 b).2.1 := by decide +kernel
theorem tyJ8_ok : ∀ k, k < 0 → parseFieldDescriptor (TJ8 k).2.2.1 = some (tyJ8 k) := by decide +kernel
abbrev cJ8_newLength_cabcc : ByteArray := prog_41_method_27_code
def yJ8_newLength_cabcc : MethodName := ⟨RJ8, "newLength", "(III)I"⟩
abbrev cJ8_hugeLength_7cf53 : ByteArray := prog_41_method_28_code
def yJ8_hugeLength_7cf53 : MethodName := ⟨RJ8, "hugeLength", "(II)I"⟩
def RJ3 : String := "jdk/internal/util/Preconditions"
def TJ3 : u_T := fun k => match k with
  | _ => ("", "", "", false)
def tyJ3 : Nat → FieldType := fun k => match k with
  | _ => .int
theorem nmJ3 : ∀ a, a < 0 → ∀ b, b < 0 → a ≠ b → (TJ3 a).2.1 ≠ (TJ3 b).2.1 := by decide +kernel
theorem tyJ3_ok : ∀ k, k < 0 → parseFieldDescriptor (TJ3 k).2.2.1 = some (tyJ3 k) := by decide +kernel
abbrev cJ3_checkIndex_8e157 : ByteArray := prog_42_method_11_code
def yJ3_checkIndex_8e157 : MethodName := ⟨RJ3, "checkIndex", "(IILjava/util/function/BiFunction;)I"⟩
def RL : String := "PathHouseLaw"
abbrev cL_out : ByteArray := method_3_code
def yL_out : MethodName := ⟨RL, "out", "(LPathHouse;I[J)I"⟩
abbrev cL_law : ByteArray := code
def yL_law : MethodName := ⟨RL, "law", "([I)Z"⟩
abbrev vwCl : List vw_C := [(RJx4a65c, TJx4a65c, 3), (RX0, TX0, 5), (RX1, TX1, 11), (RX2, TX2, 2), (RX3, TX3, 3), (RX4, TX4, 4), (RX5, TX5, 7), (RX6, TX6, 2), (RX7, TX7, 2), (RX8, TX8, 8), (RX9, TX9, 9), (RX10, TX10, 3), (RX11, TX11, 10), (RX12, TX12, 12), (RX13, TX13, 14), (RX14, TX14, 8), (RX15, TX15, 37)]
end
section
/-! CONTRACTS OF METHODS THAT RETURN OR THROW, the outcome told exactly. xb_Met: from every state with Pc the method ends, with Qc of the outcome and the state; xb_back: at a call. -/
section XB
def xb_hh (t : ExceptionTableEntry) : Nat × Nat × Nat × Nat := (t.startPc, t.endPc, t.handlerPc, t.catchType)
def xb_Q (Qc : Array Value → State → Outcome → State → Prop) (mc ms : Nat) (free : Addr → Prop) : Array Value → State → Outcome → State → Prop := fun a st o t =>
  Qc a st o t ∧ st.WarmedH t.vm ∧ ∃ L, st.sameButNew ({ t with vm := st.vm } : State) L mc ms ∧ ∀ q ∈ L, free q.base
def xb_Met (l : Launch) (y : MethodName) (cw : Cond) (rm : Room) (Pc : Array Value → State → Prop) (Qc : Array Value → State → Outcome → State → Prop) (mc ms : Nat) (free : Addr → Prop) : Prop :=
  MetFree l y (headSpec [cw] rm) Pc (fun _ _ _ _ _ => True) (xb_Q Qc mc ms free)
def xb_MQ (below : List Frame) (Qc : Array Value → State → Outcome → State → Prop) (a : Array Value) (s : State) (mc ms : Nat) (free : Addr → Prop) : State → Prop := fun t =>
  ∃ o, t.status = .running ∧ Ended t below o ∧ xb_Q Qc mc ms free a s o t
/-- what a code word (with or without a table) says of a named method -/
def xb_Is (y : MethodName) (cw : Cond) (bytes : ByteArray) (maxL : Nat) (ret : Option FieldType) (hh : List (Nat × Nat × Nat × Nat)) : Prop :=
  ∀ (args : Array Value) (s : State) (m : MethodId), cw.before args s = true → s.methodNamed? y = some m →
    ∃ meth c, s.vm.method? m = some meth ∧ meth.code = some c ∧ c.code = bytes ∧ c.maxLocals = maxL ∧ meth.sig.returnType = ret ∧ meth.locks = false ∧ c.exceptionTable.toList.map xb_hh = hh ∧ parseMethodDescriptor y.desc = some meth.sig
theorem xb_is_code {y : MethodName} {bytes : ByteArray} {maxL : Nat} {ret : Option FieldType} : xb_Is y (.code y bytes maxL ret) bytes maxL ret [] := by
  intro args s m h hn
  obtain ⟨meth, c, h1, h2, h3, h4, h5, h6, h7, h8⟩ := Cond.code_spec hn h
  exact ⟨meth, c, h1, h2, h3, h4, h5, h6, by rw [Array.isEmpty_iff.mp h7]; rfl, h8⟩
theorem xb_is_codeWith {y : MethodName} {bytes : ByteArray} {maxL : Nat} {ret : Option FieldType} {hh : List (Nat × Nat × Nat × Nat)} : xb_Is y (.codeWith y bytes maxL ret hh) bytes maxL ret hh := by
  intro args s m h hn
  obtain ⟨m9, meth9, c9, hn9, h1, h2, h3, h4, h5, h6, h7, h8⟩ := Cond.codeWith_spec h
  cases Option.some.inj (hn9.symm.trans hn)
  exact ⟨meth9, c9, h1, h2, h3, h4, h6, h7, h5, h8⟩
theorem xb_ofW {l : Launch} {y : MethodName} {cw : Cond} {rm : Room} {Pc : Array Value → State → Prop} {Qc : Array Value → State → Outcome → State → Prop} {mc ms : Nat} {free : Addr → Prop} {cc : ByteArray} {maxL : Nat} {ret : Option FieldType} {hh : List (Nat × Nat × Nat × Nat)}
    (hy : plainName y.cls = true) (his : xb_Is y cw cc maxL ret hh)
    (body : ∀ p e s m args below meth c s₁, BodyLoose p l y (headSpec [cw] rm) cc maxL ret e s m args below meth c s₁ → c.maxLocals = maxL → c.exceptionTable.toList.map xb_hh = hh → Pc args s →
      W p l e rm s m args below meth c s.heap [] 0 0 (xb_MQ below Qc args s mc ms free) (entryFrame m args maxL)) : xb_Met l y cw rm Pc Qc mc ms free := by
  have hcw : ∀ (args : Array Value) (s : State), (headSpec [cw] rm).pre.before args s = true → cw.before args s = true := fun args s h => atoms_spec (ws := [cw]) h _ List.mem_cons_self
  refine MetFree.of_bodyS (code := cc) (maxLocals := maxL) (ret := ret) hy ?_ ?_
  · intro args s m h hn
    obtain ⟨meth, c, h1, h2, h3, h4, h5, h6, -, -⟩ := his args s m (hcw _ _ h) hn
    exact ⟨meth, c, h1, h2, h3, h4, h5, h6⟩
  · intro p e s m args below meth c s₁ B hml hP _
    have hh0 : s₁.heap = s.heap := by rw [B.state]; rfl
    have ht : c.exceptionTable.toList.map xb_hh = hh := by
      obtain ⟨meth9, c9, h1, h2, -, -, -, -, h7, -⟩ := his args s m (hcw _ _ B.pre) B.named
      cases Option.some.inj (h1.symm.trans B.method)
      cases Option.some.inj (h2.symm.trans (Stand.of_body B).code)
      exact h7
    obtain ⟨t, a1, o, b1, b2, b3⟩ := body p e s m args below meth c s₁ B hml ht hP s₁ hh0 (Stand.of_body B)
    exact ⟨t, o, a1, b1, b2, b3⟩
/-- AT A CALL: it comes back behind the instruction, or the exception stands over the caller's frame -/
theorem xb_back {l : Launch} {R : Room} {p : Program} {e : Env} {below : List Frame} {s : State} {sargs : Array Value} {y : MethodName} {len W9 : Nat} {cw : Cond} {rm : Room} {Pc : Array Value → State → Prop} {Qc : Array Value → State → Outcome → State → Prop} {mc ms : Nat} {free : Addr → Prop} {bytes : ByteArray} {maxL : Nat} {ret : Option FieldType} {hh : List (Nat × Nat × Nat × Nat)}
    (hM : xb_Met l y cw rm Pc Qc mc ms free) (his : xb_Is y cw bytes maxL ret hh) (hrc : rm.cells = mc) (hrs : rm.slots = ms)
    (hframes : rm.frames + 1 ≤ R.frames) (hlocals : W9 + (maxL + 11) + rm.locals ≤ R.locals)
    {m : MethodId} {meth : Method} {c : Code} {U : State} {Ls : List Loc} {c0 s0 : Nat} {g : JFrame} {ig : Instr} {mk : MethodId} {a : Array Value}
    (X : Stand p l e R s m sargs below meth c U Ls c0 s0) (hg : g.method = m) (hsize : g.locals.size = c.maxLocals) (hdg : decode c.code g.pc = .ok (ig, len))
    (hW : 2 * g.monitorRoom + (g.stack.map fun v => v.category).sum ≤ W9) (hn : U.methodNamed? y = some mk) (h4 : c0 + mc ≤ R.cells) (h5 : s0 + ms ≤ R.slots)
    (h2 : cw.before a U = true) (h3 : (Cond.initialized y.cls).before a U = true) (hPc : Pc a (U.calling g mk a)) :
    (∃ (v : Option Value) (t U' : State) (L : List Loc), Stand p l e R s m sargs below meth c U' (Ls ++ L) (c0 + mc) (s0 + ms) ∧ (∀ q ∈ L, free q.base) ∧ U'.heap = t.heap ∧ U'.vm = t.vm ∧ Qc a (U.calling g mk a) (.returned v) t ∧
      Steps p.tables e below (doInvoke e (U.setTop g) [] mk a).1 (U'.setTop { g with pc := g.pc + len, stack := v.toList ++ g.stack })) ∨
    (∃ (q : Addr) (t U' : State) (L : List Loc), Stand p l e R s m sargs below meth c U' (Ls ++ L) (c0 + mc) (s0 + ms) ∧ (∀ q ∈ L, free q.base) ∧ U'.heap = t.heap ∧ U'.vm = t.vm ∧ Qc a (U.calling g mk a) (.threw q) t ∧
      Steps p.tables e below (doInvoke e (U.setTop g) [] mk a).1 ((U'.setTop g).pushFrame (.throwing q))) := by
  have h1 : (headSpec [cw] rm).pre.before a U = true := atoms_intro fun w hw => by rw [List.mem_singleton.mp hw]; exact h2
  obtain ⟨methY, cY, hmY, hcY, -, hlY, -, -, -, -⟩ := his a U mk h2 hn
  obtain ⟨kY, hkY, -⟩ := className_of_methodNamed hn
  have hinitY : kY.init = .initialized := Cond.initialized_spec (findClass_of_methodNamed hn) hkY h3
  have h : At U g.method c below := by rw [hg]; exact X.here
  have hlocals9 : W9 + (maxL + 11) + (headSpec [cw] rm).room.locals ≤ R.locals := hlocals
  have happ : (headSpec [cw] rm).appliesLoose y e.platform (U.calling g mk a) = true :=
    Spec.appliesLoose_calling (g := g) h hdg hn hkY hinitY
      (X.room_calling (g := g) (R' := (headSpec [cw] rm).room) hsize hmY hcY hframes (by rw [hlY]; omega) (by rw [show (headSpec [cw] rm).room.cells = mc from hrc]; exact h4) (by rw [show (headSpec [cw] rm).room.slots = ms from hrs]; exact h5)) h1
  obtain ⟨mid, hmid⟩ := h.above
  have hfr : (U.setTop g).frames = (.java g :: mid) ++ below := by rw [State.frames_setTop' g h.top, hmid]; rfl
  obtain ⟨o, s₂, hsteps, -, hend, hq⟩ := Steps.callFree hM p X.admits X.cas X.clock (acts := []) hfr happ hPc trivial
  have hq' : xb_Q Qc mc ms free a (U.calling g mk a) o s₂ := hq
  rw [State.frames_setTop' g h.top] at hend
  obtain ⟨g₀, hg0⟩ := Option.isSome_iff_exists.mp h.top
  obtain ⟨r, hr⟩ := State.topJava?_eq_some.mp hg0
  have hr' : (({ U with heap := s₂.heap, slotsUsed := s₂.slotsUsed } : State).setVm s₂.vm).frames = .java g₀ :: r := hr
  obtain ⟨hqc, hW₂, L, hsm, hL⟩ := hq'
  obtain ⟨e2, q2, q3, q4, q5, q6⟩ := id hsm
  have e3 : s₂ = ({ (U.calling g mk a).setFrames s₂.frames with heap := s₂.heap, slotsUsed := s₂.slotsUsed } : State).setVm s₂.vm := by
    have : s₂ = ({ s₂ with vm := (U.calling g mk a).vm } : State).setVm s₂.vm := rfl
    rw [e2] at this
    exact this
  have hW' : U.WarmedH s₂.vm := hW₂
  have hsame : U.sameButNew ({ U with heap := s₂.heap, slotsUsed := s₂.slotsUsed } : State) L mc ms := by
    refine ⟨?_, q2, q3, q4, q5, q6⟩
    obtain ⟨t, ht, -⟩ := State.frames_cons hr
    show ({ U with heap := s₂.heap, slotsUsed := s₂.slotsUsed } : State) = { U.setFrames U.frames with heap := s₂.heap, slotsUsed := s₂.slotsUsed }
    rw [State.setFrames_self ht]
  cases o with
  | returned v =>
    obtain ⟨c₂, i₂, len₂, hc₂, hd₂, hf₂⟩ := hend
    have hcc : c₂ = c := by
      have h1 : s₂.code? g.method = U.code? g.method := by
        rw [State.code?_eq, State.code?_eq, hW'.alike.method?]
      exact Option.some.inj (hc₂.symm.trans (h1.trans h.code))
    subst hcc
    have hlen : len₂ = len := by rw [hdg] at hd₂; cases hd₂; rfl
    subst hlen
    have hs₂ : s₂ = (({ U with heap := s₂.heap, slotsUsed := s₂.slotsUsed } : State).setVm s₂.vm).setTop { g with pc := g.pc + len₂, stack := v.toList ++ g.stack } := by
      refine e3.trans ?_
      rw [hf₂, State.calling_eq h.top, State.setFrames_setFrames, State.setTop_of_frames _ hr', hr]
      rfl
    subst hg
    refine Or.inl ⟨v, s₂, (({ U with heap := s₂.heap, slotsUsed := s₂.slotsUsed } : State).setVm s₂.vm), L,
      ⟨X.admits, X.cas, X.clock, X.frames, X.room, X.hears, X.method, X.code, (X.here.setHeapUsed s₂.heap s₂.slotsUsed).setVm hW'.alike, X.tail, State.WarmedH.trans X.warmed hW', X.limits, X.bytes, X.same.trans (hsame.setVm s.vm)⟩,
      hL, rfl, rfl, hqc, ?_⟩
    rw [← hs₂]
    exact hsteps
  | threw q =>
    have hf₂ : s₂.frames = .throwing q :: .java g :: U.frames.tail := hend
    have hs₂ : s₂ = ((({ U with heap := s₂.heap, slotsUsed := s₂.slotsUsed } : State).setVm s₂.vm).setTop g).pushFrame (.throwing q) := by
      refine e3.trans ?_
      rw [hf₂, State.calling_eq h.top, State.setFrames_setFrames, State.pushFrame, State.frames_setTop _ hr', State.setTop_of_frames _ hr', State.setFrames_setFrames, hr]
      rfl
    subst hg
    refine Or.inr ⟨q, s₂, (({ U with heap := s₂.heap, slotsUsed := s₂.slotsUsed } : State).setVm s₂.vm), L,
      ⟨X.admits, X.cas, X.clock, X.frames, X.room, X.hears, X.method, X.code, (X.here.setHeapUsed s₂.heap s₂.slotsUsed).setVm hW'.alike, X.tail, State.WarmedH.trans X.warmed hW', X.limits, X.bytes, X.same.trans (hsame.setVm s.vm)⟩,
      hL, rfl, rfl, hqc, ?_⟩
    rw [← hs₂]
    exact hsteps
end XB
/-! AN EXCEPTION OVER THE METHOD'S OWN FRAME: caught by the one row of the table, or out -/
section XC
variable {p : Program} {l : Launch} {e : Env} {R : Room} {s : State} {m : MethodId} {args : Array Value} {below : List Frame} {meth : Method} {c : Code} {H : Heap} {locs : List Loc} {cells slots : Nat} {Q : State → Prop}
variable {pc : Nat} {ls : Array Slot} {rest : List Value}
theorem xb_go_link {Q : Handler → Pre} {E : CtlPost} {e : Env} {d : Bool} {acts : List Action} {s : State} {f : JFrame} {a : Addr} {x : ExceptionTableEntry} {t : List ExceptionTableEntry} {c : ClassId} {cell : Cell} (hx : covers x f.pc = true) (h0 : x.catchType ≠ 0)
    (hl : s.vm.ClassLinks e.platform f.method.cls x.catchType c) (hcell : s.heap[a]? = some cell) (hobj : ∀ k, cell.vm ≠ .statics k)
    (hk : ∃ k, s.vm.classes[cell.cls]? = some k) (hc : ∃ k, s.vm.classes[c]? = some k) (hfit : s.vm.assignable cell.cls c = true) :
    wp (findHandler.go f a (x :: t)) Q E e d acts s ↔ Q (.found x.handlerPc) d acts (s.setVm (s.vm.noted f.method.cls x.catchType (.cls c))) := by
  simp only [covers] at hx
  obtain ⟨ha, ht⟩ := (resolveClass_links e.toSetting hl).op (op := VmOp.resolveClass f.method.cls x.catchType) rfl
  have hal : s.vm.Alike (s.vm.noted f.method.cls x.catchType (.cls c)) := (Vm.Alike.refl s.vm).noted _ _ _
  obtain ⟨k1, hk1⟩ := hk
  obtain ⟨k2, hk2⟩ := hc
  obtain ⟨k1', hk1', -⟩ := hal.2.2 _ _ hk1
  obtain ⟨k2', hk2', -⟩ := hal.2.2 _ _ hk2
  have hfit' : (s.vm.noted f.method.cls x.catchType (.cls c)).assignable cell.cls c = true := by rw [hal.assignable]; exact hfit
  simp [findHandler.go, hx, h0, ha, ht, hcell, hobj, hk1', hk2', hfit', VmOp.dirties, VmOp.acts]
theorem xb_caught {tb : Tables} {e : Env} {s target : State} {g : JFrame} {c : Code} {below : List Frame} {a : Addr} (h : At s g.method c below) {pc : Nat} {vm' : Vm}
    (hfind : ∀ (Q : Handler → Pre) (E : CtlPost) (d : Bool) (acts : List Action), wp (findHandler g a) Q E e d acts ((s.setTop g).pushFrame (.throwing a)) ↔ Q (.found pc) d acts (((s.setTop g).pushFrame (.throwing a)).setVm vm'))
    (hrest : Steps tb e below ((s.setVm vm').setTop { g with pc := pc, stack := [.ref a] }) target) :
    Steps tb e below ((s.setTop g).pushFrame (.throwing a)) target := by
  obtain ⟨hgo, hw⟩ := h.throwing a
  refine Steps.head hgo hw ?_
  have hcat : ∀ (S : State) (r : List Frame), (∀ (Q : Handler → Pre) (E : CtlPost) (d : Bool) (acts : List Action), wp (findHandler g a) Q E e d acts S ↔ Q (.found pc) d acts (S.setVm vm')) →
      (stepThrowing e S a (.java g :: r)).Is ((S.setVm vm').setFrames (.java { g with pc := pc, stack := [.ref a] } :: r)) [] := by
    intro S r hf
    simp only [stepThrowing, searchFrame, vmDo]
    generalize hr : Sem.go _ e false [] S = res
    obtain ⟨as, rfl, ha⟩ := Sem.eq_ok_of hr (a := Handler.found pc) (s' := S.setVm vm') (acts' := []) (by simp [hf _ _ _ _])
    exact ⟨rfl, ha⟩
  rw [stepThread_throwing (frames_entered h.top _), (hcat _ _ hfind).1]
  obtain ⟨g₀, hg⟩ := Option.isSome_iff_exists.mp h.top
  obtain ⟨r, hr⟩ := State.topJava?_eq_some.mp hg
  have hr' : (s.setVm vm').frames = .java g₀ :: r := hr
  have hfv : ∀ (u : State) (F G : List Frame), ((u.setFrames F).setVm vm').setFrames G = (u.setVm vm').setFrames G := fun u F G => by
    have h1 : (u.setFrames F).setVm vm' = (u.setVm vm').setFrames F := rfl
    rw [h1, State.setFrames_setFrames]
  rw [State.setTop_of_frames _ hr'] at hrest
  rw [hr, List.tail_cons, State.pushFrame, hfv, State.setTop_of_frames _ hr, hfv]
  exact hrest
/-- the first row of the table covers the pc and takes the exception -/
theorem xb_catch {own name E : String} {ce : Cell} {q : Addr} (hown : s.vm.findClass own = some m.cls) {x : ExceptionTableEntry} {suf : List ExceptionTableEntry} (hsplit : c.exceptionTable.toList = x :: suf) (hx : covers x pc = true) (h0 : x.catchType ≠ 0)
    (hlink : (Cond.classLink own x.catchType name).before args s = true) (hcast : ∃ a b : ClassId, s.vm.findClass E = some a ∧ s.vm.findClass name = some b ∧ s.vm.assignable a b = true) (hcell : H[q]? = some ce) (hv : ce.vm = .none) (hcl : s.vm.findClass E = some ce.cls)
    (kk : W p l e R s m args below meth c H locs cells slots Q (F0 m x.handlerPc ls [.ref q])) : vx_W p l e R s m args below meth c H locs cells slots Q (F0 m pc ls rest) q := by
  intro T hT X
  have hpl : e.platform.magicAccessors = ({} : Platform).magicAccessors := by rw [X.admits.platform]
  obtain ⟨c3, c4, hc3, hc4, hasg⟩ := hcast
  cases Option.some.inj (hc3.symm.trans hcl)
  obtain ⟨c5, hc5, hcl5⟩ := Cond.classLink_spec hown hlink e.platform hpl
  cases Option.some.inj (hc4.symm.trans hc5)
  obtain ⟨dk, _, _, kt, hd, _, _, _, _, hkt, _, hopen⟩ := hcl5.here
  have hcl₀ := X.warmed.classLinks hcl5
  have hW' : s.WarmedH (T.vm.noted m.cls x.catchType (.cls c4)) := X.warmed.noted hd hopen (State.rightAt_cls hcl5)
  have hal := X.warmed.alike
  obtain ⟨kt', hkt', -⟩ := hal.2.2 _ _ hkt
  have hfit' : T.vm.assignable ce.cls c4 = true := by rw [hal.assignable]; exact hasg
  obtain ⟨t, a1, b1⟩ := kk (T.setVm (T.vm.noted m.cls x.catchType (.cls c4))) hT (X.noted hW')
  refine ⟨t, ?_, b1⟩
  refine xb_caught X.here (pc := x.handlerPc) (vm' := T.vm.noted m.cls x.catchType (.cls c4)) ?_ a1
  intro Q' E' d' acts'
  rw [W.findHandler_eq (s := (T.setTop (F0 m pc ls rest)).pushFrame (.throwing q)) (f := F0 m pc ls rest) (meth := meth) (code := c) X.method' X.code, hsplit]
  exact xb_go_link (s := (T.setTop (F0 m pc ls rest)).pushFrame (.throwing q)) (f := F0 m pc ls rest) hx h0 hcl₀ (cell := ce) (by show T.heap[q]? = some ce; rw [hT]; exact hcell) (fun k h => by rw [hv] at h; cases h) (Vm.classAt_of_assignable hfit' ⟨kt', hkt'⟩) ⟨kt', hkt'⟩ hfit'
/-- no row covers the pc -/
theorem xb_out {Qc : Array Value → State → Outcome → State → Prop} {mc ms : Nat} {free : Addr → Prop} {q : Addr} (hout : ∀ x ∈ c.exceptionTable.toList, covers x pc = false) (hlocks : meth.locks = false)
    (hq : ∀ t : State, t.heap = H → s.WarmedH t.vm → Qc args s (.threw q) t) (hf : ∀ z ∈ locs, free z.base) (hc : cells ≤ mc) (hs : slots ≤ ms) :
    vx_W p l e R s m args below meth c H locs cells slots (xb_MQ below Qc args s mc ms free) (F0 m pc ls rest) q := by
  intro T hT X
  obtain ⟨st1, hrun, hend, hW, hsm⟩ := X.leaveThrown q (g := F0 m pc ls rest) rfl rfl rfl hout hlocks
  exact ⟨_, st1, .threw q, hrun, hend, hq _ hT hW, hW, locs, hsm.mono hc hs, hf⟩
end XC
end
section
/-! THE ABSTRACT HEAP: addresses are the machine's own; cell a has a kind (0: not ours; class number + 1; 100 + array kind; 200 + exception), a length, a value in each slot. -/
abbrev Hp : Type := Nat × Nat × (Nat → Nat) × (Nat → Nat) × (Nat → Nat → Value)
def hN (h : Hp) : Nat := h.1
def hU (h : Hp) : Nat := h.2.1
def hK (h : Hp) : Nat → Nat := h.2.2.1
def hL (h : Hp) : Nat → Nat := h.2.2.2.1
def hV (h : Hp) : Nat → Nat → Value := h.2.2.2.2
def hSet (h : Hp) (a i : Nat) (v : Value) : Hp := (hN h, hU h, hK h, hL h, fun b j => if b = a ∧ j = i then v else hV h b j)
def hNew (h : Hp) (kd len used : Nat) (f : Nat → Value) : Hp := (hN h + 1, hU h + used, fun b => if b = hN h then kd else hK h b, fun b => if b = hN h then len else hL h b, fun b j => if b = hN h then f j else hV h b j)
/-- what a claim's walk has fixed: launch, first address of ours, the heap at the start, class numbers, slots, array classes -/
abbrev Cx : Type := Launch × Nat × Heap × (Nat → ClassId) × (Nat → Nat → Nat) × (Nat → ClassId) × (Nat → Nat) × (Nat → Option Nat) × Nat × Nat × (Nat → Int32)
def cL (C : Cx) : Launch := C.1
def cB (C : Cx) : Nat := C.2.1
def cH (C : Cx) : Heap := C.2.2.1
def cC (C : Cx) : Nat → ClassId := C.2.2.2.1
def cI (C : Cx) : Nat → Nat → Nat := C.2.2.2.2.1
def cA (C : Cx) : Nat → ClassId := C.2.2.2.2.2.1
def cS (C : Cx) : Nat → Nat := C.2.2.2.2.2.2.1
def cG (C : Cx) : Nat → Option Nat := C.2.2.2.2.2.2.2.1
/-- the script: its address, its length, its ints -/
def cX (C : Cx) : Nat × Nat × (Nat → Int32) := C.2.2.2.2.2.2.2.2
abbrev aTs : List FieldType := [.byte, .int, .long, .object "java/lang/Object", .object "PathHouse$Node", .object "PathHouse$Row"]
def aT (k : Nat) : FieldType := aTs.getD k .int
def cTys (C : Cx) : List (ClassId × FieldType) := [(cA C 0, .byte), (cA C 1, .int), (cA C 2, .long), (cA C 3, .object "java/lang/Object"), (cA C 4, .object "PathHouse$Node"), (cA C 5, .object "PathHouse$Row")]
def exN (e : Nat) : String := match e with
  | 0 => "java/lang/IllegalArgumentException"
  | 1 => "java/lang/IllegalStateException"
  | _ => "java/util/NoSuchElementException"
def ExC (e : Nat) (s : State) (H : Heap) (q : Nat) : Prop := ∃ ce : Cell, H[q]? = some ce ∧ ce.vm = .none ∧ s.vm.findClass (exN e) = some ce.cls
def CellOK (C : Cx) (h : Hp) (H : Heap) (a : Nat) : Prop :=
  (hK h a < 100 → ∃ r, vwCl[hK h a - 1]? = some r ∧ t_OB a (cC C (hK h a - 1)) r.2.2 (cI C (hK h a - 1)) H (hV h a)) ∧
  (100 ≤ hK h a → hK h a < 200 → hK h a - 100 < 6 ∧ H[a]? = some (arrV (cA C (hK h a - 100)) (hL h a) (hV h a)))
def Rel (C : Cx) (h : Hp) (H : Heap) : Prop :=
  H.size = hN h ∧ cB C ≤ hN h ∧ (∀ q, q < cB C → H[q]? = (cH C)[q]?) ∧ ∀ a, hK h a ≠ 0 → cB C ≤ a ∧ a < hN h ∧ CellOK C h H a
theorem CellOK.kept {C : Cx} {h : Hp} {H H1 : Heap} {a : Nat} (k : CellOK C h H a) (e : H1[a]? = H[a]?) : CellOK C h H1 a := by
  refine ⟨fun q => ?_, fun q1 q2 => ?_⟩
  · obtain ⟨r, r1, r2⟩ := k.1 q
    exact ⟨r, r1, r2.kept e⟩
  · obtain ⟨r1, r2⟩ := k.2 q1 q2
    exact ⟨r1, by rw [e]; exact r2⟩
/-- one cell is written anew, with the same kind and length -/
theorem Rel.put {C : Cx} {h : Hp} {H H1 : Heap} {a i : Nat} {v : Value} (hR : Rel C h H) (hk : hK h a ≠ 0) (hz : H1.size = H.size) (hq : ∀ q, q ≠ a → H1[q]? = H[q]?) (hc : CellOK C (hSet h a i v) H1 a) : Rel C (hSet h a i v) H1 := by
  obtain ⟨r1, r2, r3, r4⟩ := hR
  refine ⟨hz.trans r1, r2, fun q hlt => ?_, fun b hb => ?_⟩
  · have : q ≠ a := fun e => by subst e; exact absurd (r4 q hk).1 (Nat.not_le.mpr hlt)
    rw [hq q this]; exact r3 q hlt
  · obtain ⟨q1, q2, q3⟩ := r4 b hb
    refine ⟨q1, q2, ?_⟩
    by_cases e : b = a
    · subst e; exact hc
    · have e1 := q3.kept (H1 := H1) (hq b e)
      have e2 : hV (hSet h a i v) b = hV h b := by funext j; simp [hSet, hV, e]
      refine ⟨fun z => ?_, fun z1 z2 => ?_⟩
      · rw [e2]; exact e1.1 z
      · rw [e2]; exact e1.2 z1 z2
/-- a cell is made at the end -/
theorem Rel.push {C : Cx} {h : Hp} {H : Heap} {cell : Cell} {kd len used : Nat} {f : Nat → Value} (hR : Rel C h H) (hc : CellOK C (hNew h kd len used f) (H.push cell) (hN h)) : Rel C (hNew h kd len used f) (H.push cell) := by
  obtain ⟨r1, r2, r3, r4⟩ := hR
  have hlt : ∀ q, q < H.size → (H.push cell)[q]? = H[q]? := fun q hq => by rw [Array.getElem?_push]; simp [Nat.ne_of_lt hq]
  refine ⟨by rw [Array.size_push, r1]; rfl, Nat.le_succ_of_le r2, fun q hq => ?_, fun b hb => ?_⟩
  · rw [hlt q (by rw [r1]; exact Nat.lt_of_lt_of_le hq r2)]; exact r3 q hq
  · by_cases e : b = hN h
    · subst e; exact ⟨r2, Nat.lt_succ_self _, hc⟩
    · have hb' : hK h b ≠ 0 := by simpa [hNew, hK, e] using hb
      obtain ⟨q1, q2, q3⟩ := r4 b hb'
      refine ⟨q1, Nat.lt_succ_of_lt q2, ?_⟩
      have e1 := q3.kept (H1 := H.push cell) (hlt b (by rw [r1]; exact q2))
      have e2 : hV (hNew h kd len used f) b = hV h b := by funext j; simp [hNew, hV, e]
      have e3 : hK (hNew h kd len used f) b = hK h b := by simp [hNew, hK, e]
      have e4 : hL (hNew h kd len used f) b = hL h b := by simp [hNew, hL, e]
      refine ⟨fun z => ?_, fun z1 z2 => ?_⟩
      · rw [e2, e3]; rw [e3] at z; exact e1.1 z
      · rw [e2, e3, e4]; rw [e3] at z1 z2; exact e1.2 z1 z2
/-! WHAT HOLDS OF THE TABLES, at every state of the walk -/
def isNest : Cond → Bool
  | .fieldLinkNest .. => true
  | .methodLinkNest .. => true
  | _ => false
def gW : List Cond := lw_tbl.filter goodWord
def nW : List Cond := lw_tbl.filter isNest
def xs_cast (E N : String) (U : State) : Prop := ∃ a b : ClassId, U.vm.findClass E = some a ∧ U.vm.findClass N = some b ∧ U.vm.assignable a b = true
def cWl : List (String × String) := [("java/lang/IllegalArgumentException", "java/lang/IllegalArgumentException"), ("java/lang/IllegalStateException", "java/lang/IllegalStateException"), ("java/util/NoSuchElementException", "java/util/NoSuchElementException"), ("PathHouseModel$Stop", "PathHouseModel$Stop"),
  ("PathHouse$Node", "PathHouse$Node"), ("PathHouse$Segment", "PathHouse$Segment"), ("PathHouse$Selector", "PathHouse$Selector"), ("PathHouse$Term", "PathHouse$Term"), ("PathHouse$Node", "java/lang/Object"), ("PathHouse$Segment", "java/lang/Object"), ("PathHouse$Selector", "java/lang/Object"), ("PathHouse$Term", "java/lang/Object"), ("PathHouse$Row", "PathHouse$Row")]
def aOl : List String := ["java/lang/Object", "PathHouse$Node", "PathHouse$Row"]
def strL : List (String × Nat × String × Nat) := [("PathHouse$Reader", 40, "the text has a fault", 6), ("PathHouse$ValueReader", 73, "null", 4), ("PathHouse$ValueReader", 79, "false", 2), ("PathHouse$ValueReader", 81, "true", 7), ("PathHouse$QueryReader", 304, "length", 3), ("PathHouse$QueryReader", 306, "count", 1), ("PathHouse$QueryReader", 308, "value", 9), ("PathHouse$QueryReader", 283, "null", 4), ("PathHouse$QueryReader", 289, "false", 2), ("PathHouse$QueryReader", 291, "true", 7), ("PathHouse$Finder", 49, "the find ends here", 5), ("PathHouse$Out", 53, "u00", 8), ("PathHouse$Out", 88, "null", 4), ("PathHouse$Out", 90, "false", 2), ("PathHouse$Out", 92, "true", 7), ("PathHouse", 141, "OUT has no such byte", 0), ("PathHouseModel", 204, "null", 4), ("PathHouseModel", 212, "false", 2), ("PathHouseModel", 214, "true", 7), ("PathHouseModel", 390, "length", 3), ("PathHouseModel", 391, "count", 1), ("PathHouseModel", 393, "value", 9)]
def stL : List (String × String × String × Nat) := [("java/lang/Throwable", "UNASSIGNED_STACK", "[Ljava/lang/StackTraceElement;", 0), ("java/lang/Throwable", "SUPPRESSED_SENTINEL", "Ljava/util/List;", 1), ("java/util/ArrayList", "DEFAULTCAPACITY_EMPTY_ELEMENTDATA", "[Ljava/lang/Object;", 2)]
/-- what the start's heap holds for the makers of exceptions -/
def EXs (C : Cx) (U : State) : Prop := (cL C).stackTraces = false ∧ vx_Zq Bundle.tN "UNASSIGNED_STACK" Bundle.steD (fun q => cB C ≤ q) U (cH C) ∧ vx_Zq Bundle.tN "SUPPRESSED_SENTINEL" Bundle.listD (fun q => cB C ≤ q) U (cH C)
def dWx : List Cond := [.declares (Bundle.initS "java/lang/RuntimeException"), .declares (Bundle.initS "java/lang/Exception"), .declares (Bundle.initS "java/lang/Throwable")]
def SF (C : Cx) (U : State) : Prop := (∀ w ∈ gW, ∀ A : Array Value, w.before A U = true) ∧ (∀ w ∈ nW, va_Nw w U) ∧ va_K (cC C, cI C) vwCl (cTys C) U ∧ (∀ q ∈ cWl, xs_cast q.1 q.2 U) ∧ (∀ q ∈ aOl, va_AO q U) ∧ EXs C U ∧ (∀ q ∈ strL, vk_R q.1 q.2.1 q.2.2.1 (cS C q.2.2.2) U) ∧ (∀ q ∈ stL, va_Z q.1 q.2.1 q.2.2.1 (va_rf (cG C q.2.2.2)) (fun z => cB C ≤ z) U (cH C)) ∧ (∀ w ∈ dWx, va_Nw w U) ∧ (cX C).1 < cB C ∧ va_X (cX C).1 (cX C).2.1 (cX C).2.2 U (cH C)
theorem xs_cast.moved {E N : String} {u U : State} (hvm : u.vm.Alike U.vm) (h : xs_cast E N u) : xs_cast E N U := by
  obtain ⟨a, b, h1, h2, h3⟩ := h
  exact ⟨a, b, by rw [hvm.findClass]; exact h1, by rw [hvm.findClass]; exact h2, by rw [hvm.assignable]; exact h3⟩
theorem SF.warm {C : Cx} {s U : State} (hW : s.WarmedH U.vm) (h : SF C s) : SF C U := by
  obtain ⟨h1, h2, h3, h4, h5, ⟨h6, h7, h8⟩, h9, h10, h11, h12, h13⟩ := h
  refine ⟨fun w hw A => ?_, fun w hw => ?_, va_K.moved hW.alike h3, fun q hq => (h4 q hq).moved hW.alike, fun q hq => (h5 q hq).moved hW.alike, ⟨h6, vx_Zq.moved hW.alike h7, vx_Zq.moved hW.alike h8⟩, fun q hq => vk_R.warm hW (h9 q hq), fun q hq => va_Z.moved hW.alike (h10 q hq), fun w hw => ?_, h12, va_X.moved hW.alike h13⟩
  · have hg : goodWord w = true := (List.mem_filter.mp hw).2
    exact word_at hW (good_of_word hg) (h1 w hw #[])
  · have hg : isNest w = true := (List.mem_filter.mp hw).2
    have h := h2 w hw
    cases w with
    | fieldLinkNest a i b n d k => exact va_Nw.warmF hW h
    | methodLinkNest a i x k => exact va_Nw.warmM hW h
    | _ => cases hg
  · have h := h11 w hw
    have key : ∀ y : MethodName, va_Nw (.declares y) s → va_Nw (.declares y) U := fun y h => va_tabs rfl (rfl : (s.setVm U.vm).vm = U.vm) (Cond.before_shiftedFace (State.Shifted.of_warmed hW) (.declares y) rfl h)
    simp only [dWx, List.mem_cons, List.not_mem_nil, or_false] at hw
    rcases hw with rfl | rfl | rfl <;> exact key _ h
theorem SF.same {C : Cx} {s U : State} (hvm : s.vm = U.vm) (h : SF C s) : SF C U := SF.warm (by rw [← hvm]; exact State.WarmedH.refl s) h
/-! OUTCOMES -/
abbrev Out : Type := Option Value ⊕ (Nat × Nat)
def QO (C : Cx) (o : Out) (h : Hp) : Array Value → State → Outcome → State → Prop := fun _ st oc t =>
  Rel C h t.heap ∧ match o with
  | .inl v => oc = .returned v
  | .inr (kd, a) => ∃ q, oc = .threw q ∧ ((kd = 16 ∧ q = a ∧ hK h a = 16) ∨ (200 ≤ kd ∧ ExC (kd - 200) st t.heap q))
end
section
/-! A POINT OF A METHOD'S BODY, over the abstract heap: from pc, locals lv, stack st and heap h the method ends in o' with heap h' -/
abbrev Mi : Type := String × String × ByteArray × Nat × Option FieldType × List (Nat × Nat × Nat × Nat)
def Ctx (C : Cx) (M : Mi) (p : Program) (s : State) (m : MethodId) (meth : Method) (c : Code) : Prop :=
  p.tables.exec = Jvm.exec ∧ c.code = M.2.2.1 ∧ c.maxLocals = M.2.2.2.1 ∧ meth.sig.returnType = M.2.2.2.2.1 ∧ meth.locks = false ∧ c.exceptionTable.toList.map xb_hh = M.2.2.2.2.2 ∧ s.vm.findClass M.1 = some m.cls ∧ meth.name = M.2.1 ∧ SF C s
def RmOf (fr lo : Nat) (h0 h' : Hp) : Room := { frames := fr, cells := hN h' - hN h0, slots := hU h' - hU h0, locals := lo }
def Gd (C : Cx) (M : Mi) (fr lo : Nat) (h0 : Hp) (o' : Out) (h' : Hp) (pc : Nat) (lv : List (Nat × Value)) (st : List Value) (h : Hp) : Prop :=
  ∀ (p : Program) (e : Env) (s : State) (m : MethodId) (args : Array Value) (below : List Frame) (meth : Method) (c : Code) (H : Heap) (locs : List Loc) (ls : Array Slot),
    Ctx C M p s m meth c → Rel C h0 s.heap → Rel C h H → hN h0 ≤ hN h → hU h0 ≤ hU h → (∀ l ∈ locs, cB C ≤ l.base) → lv_has ls M.2.2.2.1 lv →
    W p (cL C) e (RmOf fr lo h0 h') s m args below meth c H locs (hN h - hN h0) (hU h - hU h0) (xb_MQ below (QO C o' h') args s (hN h' - hN h0) (hU h' - hU h0) (fun q => cB C ≤ q)) (F0 m pc ls st)
/-- the field k of the class ci, through the entry idx -/
def FL (M : Mi) (idx ci k : Nat) : Prop := ∃ (r : vw_C) (ty : Nat → FieldType), vwCl[ci]? = some r ∧ k < r.2.2 ∧ (∀ w ∈ u_ws r.1 r.2.1 r.2.2, w ∈ gW) ∧
  (∀ k, k < r.2.2 → parseFieldDescriptor (r.2.1 k).2.2.1 = some (ty k)) ∧ (∀ a, a < r.2.2 → ∀ b, b < r.2.2 → a ≠ b → (r.2.1 a).2.1 ≠ (r.2.1 b).2.1) ∧
  (Cond.fieldLink M.1 idx (r.2.1 k).1 (r.2.1 k).2.1 (r.2.1 k).2.2.1 ∈ gW ∨ ∃ host, Cond.fieldLinkNest M.1 idx (r.2.1 k).1 (r.2.1 k).2.1 (r.2.1 k).2.2.1 host ∈ nW)
section GD
variable {C : Cx} {M : Mi} {h0 h h' : Hp} {fr lo : Nat} {o' : Out} {pc pc' : Nat} {lv lv' : List (Nat × Value)} {st st' : List Value}
theorem gd_step (f : ∀ {p : Program} {l : Launch} {e : Env} {R : Room} {s : State} {m : MethodId} {args : Array Value} {below : List Frame} {meth : Method} {c : Code} {H : Heap} {locs : List Loc} {cells slots : Nat} {Q : State → Prop} {ls : Array Slot}, p.tables.exec = Jvm.exec → c.code = M.2.2.1 → lv_has ls M.2.2.2.1 lv →
      W p l e R s m args below meth c H locs cells slots Q (F0 m pc' ls st') → W p l e R s m args below meth c H locs cells slots Q (F0 m pc ls st))
    (k : Gd C M fr lo h0 o' h' pc' lv st' h) : Gd C M fr lo h0 o' h' pc lv st h := by
  intro p e s m args below meth c H locs ls hc hR0 hR hn hu hL hl
  exact f hc.1 hc.2.1 hl (k p e s m args below meth c H locs ls hc hR0 hR hn hu hL hl)
theorem gd_stepL (f : ∀ {p : Program} {l : Launch} {e : Env} {R : Room} {s : State} {m : MethodId} {args : Array Value} {below : List Frame} {meth : Method} {c : Code} {H : Heap} {locs : List Loc} {cells slots : Nat} {Q : State → Prop} {ls : Array Slot}, p.tables.exec = Jvm.exec → c.code = M.2.2.1 → lv_has ls M.2.2.2.1 lv →
      (∀ ls : Array Slot, lv_has ls M.2.2.2.1 lv' → W p l e R s m args below meth c H locs cells slots Q (F0 m pc' ls st')) → W p l e R s m args below meth c H locs cells slots Q (F0 m pc ls st))
    (k : Gd C M fr lo h0 o' h' pc' lv' st' h) : Gd C M fr lo h0 o' h' pc lv st h := by
  intro p e s m args below meth c H locs ls hc hR0 hR hn hu hL hl
  exact f hc.1 hc.2.1 hl (fun ls hl => k p e s m args below meth c H locs ls hc hR0 hR hn hu hL hl)
/-- constants of the class file -/
theorem gd_stepC (f : ∀ {p : Program} {l : Launch} {e : Env} {R : Room} {s : State} {m : MethodId} {args : Array Value} {below : List Frame} {meth : Method} {c : Code} {H : Heap} {locs : List Loc} {cells slots : Nat} {Q : State → Prop} {ls : Array Slot}, p.tables.exec = Jvm.exec → c.code = M.2.2.1 → s.vm.findClass M.1 = some m.cls → (∀ w ∈ gW, w.before args s = true) →
      W p l e R s m args below meth c H locs cells slots Q (F0 m pc' ls st') → W p l e R s m args below meth c H locs cells slots Q (F0 m pc ls st))
    (k : Gd C M fr lo h0 o' h' pc' lv st' h) : Gd C M fr lo h0 o' h' pc lv st h := by
  intro p e s m args below meth c H locs ls hc hR0 hR hn hu hL hl
  exact f hc.1 hc.2.1 hc.2.2.2.2.2.2.1 (fun w hw => hc.2.2.2.2.2.2.2.2.1 w hw args) (k p e s m args below meth c H locs ls hc hR0 hR hn hu hL hl)
theorem gd_get {a ci k idx : Nat} (hF : FL M idx ci k) (hk : hK h a = ci + 1) (hci : ci < 99) (hdg : decode M.2.2.1 pc = .ok (.getfield idx, 3))
    (kk : Gd C M fr lo h0 o' h' (pc + 3) lv (hV h a k :: st) h) : Gd C M fr lo h0 o' h' pc lv (.ref a :: st) h := by
  intro p e s m args below meth c H locs ls hc hR0 hR hn hu hL hl
  obtain ⟨r, ty, hr, hkN, hin, -, -, hlink⟩ := hF
  have hts : ∀ w ∈ gW, w.before args s = true := fun w hw => hc.2.2.2.2.2.2.2.2.1 w hw args
  obtain ⟨-, -, hcell⟩ := hR.2.2.2 a (by rw [hk]; exact Nat.succ_ne_zero _)
  obtain ⟨r9, hr9, hob⟩ := hcell.1 (by rw [hk]; omega)
  rw [hk, Nat.add_sub_cancel] at hr9 hob
  cases hr.symm.trans hr9
  obtain ⟨cell, q1, q2, q3, q4⟩ := hob
  obtain ⟨hS, hfc, kC, hkC, hkind⟩ := hc.2.2.2.2.2.2.2.2.2.2.1.1 ci _ hr
  obtain ⟨cf, kf, fi, f, hi, hsl⟩ := hS k hkN
  have hst := (u_facts hfc hkC (u_lays hts hin hkN) hi).1
  have hv : cell.slots[f.slot]? = some (hV h a k) := by rw [hsl]; exact q4 k hkN
  have kk' := kk p e s m args below meth c H locs ls hc hR0 hR hn hu hL hl
  rcases hlink with h1 | ⟨host, h1⟩
  · exact W.getf hc.1 hc.2.1 hc.2.2.2.2.2.2.1 (hts _ h1) hi hst q1 (by rw [q3]; exact fun h => by cases h) hv rfl rfl hdg kk'
  · exact va_Wgetf hc.1 hc.2.1 hc.2.2.2.2.2.2.1 (va_Nw.use rfl (hc.2.2.2.2.2.2.2.2.2.1 _ h1)) hi hst q1 (by rw [q3]; exact fun h => by cases h) hv rfl rfl hdg kk'
/-- what a field takes -/
def Sto (ty : FieldType) (v : Value) : Prop := narrow ty v = v ∧ fits ty v = true
theorem gd_put {a ci k idx : Nat} {v : Value} {ty : FieldType} (hF : FL M idx ci k) (hty : ∀ r, vwCl[ci]? = some r → parseFieldDescriptor (r.2.1 k).2.2.1 = some ty) (hk : hK h a = ci + 1) (hci : ci < 99) (hsto : Sto ty v)
    (hfin : ∀ r : vw_C, vwCl[ci]? = some r → (r.2.1 k).2.2.2 = true → M.2.1 = "<init>" ∧ (r.2.1 k).1 = M.1 ∧ Cond.fieldLink M.1 idx (r.2.1 k).1 (r.2.1 k).2.1 (r.2.1 k).2.2.1 ∈ gW)
    (hdg : decode M.2.2.1 pc = .ok (.putfield idx, 3)) (kk : Gd C M fr lo h0 o' h' (pc + 3) lv st (hSet h a k v)) : Gd C M fr lo h0 o' h' pc lv (v :: .ref a :: st) h := by
  intro p e s m args below meth c H locs ls hc hR0 hR hn hu hL hl
  obtain ⟨r, ty0, hr, hkN, hin, hty0, hnm, hlink⟩ := hF
  have hts : ∀ w ∈ gW, w.before args s = true := fun w hw => hc.2.2.2.2.2.2.2.2.1 w hw args
  have hk0 : hK h a ≠ 0 := by rw [hk]; exact Nat.succ_ne_zero _
  obtain ⟨hba, -, hcell⟩ := hR.2.2.2 a hk0
  obtain ⟨r9, hr9, hob⟩ := hcell.1 (by rw [hk]; omega)
  rw [hk, Nat.add_sub_cancel] at hr9 hob
  cases hr.symm.trans hr9
  obtain ⟨cell, q1, q2, q3, q4⟩ := hob
  have hKK := hc.2.2.2.2.2.2.2.2.2.2.1
  have hap := va_apart (own := M.1) hts hin ty0 hty0 hnm hKK hr
  obtain ⟨hS, hfc, kC, hkC, hkind⟩ := hKK.1 ci _ hr
  obtain ⟨cf, kf, fi, f, hi, hsl⟩ := hS k hkN
  have hd := hty r hr
  have hlay := hts _ (hin _ (u_in_lay hkN))
  unfold u_lay at hlay
  have hst := (u_facts hfc hkC (u_lays hts hin hkN) hi).1
  have hslot : f.slot < cell.slots.size := by rw [hsl]; exact k2_hasslot (q4 k hkN)
  have fin : ∀ H' : Heap, H'[a]? = some (cell.setSlot f.slot v) → H'.size = H.size → (∀ q, q ≠ a → H'[q]? = H[q]?) → W p (cL C) e (RmOf fr lo h0 h') s m args below meth c H' (locs ++ [⟨a, f.slot⟩]) (hN h - hN h0) (hU h - hU h0) (xb_MQ below (QO C o' h') args s (hN h' - hN h0) (hU h' - hU h0) (fun q => cB C ≤ q)) (F0 m (pc + 3) ls st) := by
    intro H' e1 e2 e3
    refine kk p e s m args below meth c H' _ ls hc hR0 (hR.put hk0 e2 e3 ⟨fun _ => ⟨r, ?_, ?_⟩, fun z => ?_⟩) hn hu (fun z hz => ?_) hl
    · show vwCl[hK h a - 1]? = some r
      rw [hk]; exact hr
    · show t_OB a (cC C (hK h a - 1)) r.2.2 (cI C (hK h a - 1)) H' _
      rw [hk, Nat.add_sub_cancel]
      rw [hsl] at e1
      refine t_OB.to (V := updV (hV h a) k v) ⟨_, e1, q2, q3, t_set q4 hap hkN v⟩ (fun j _ => ?_)
      simp [updV, hSet, hV]
    · exact absurd z (by show ¬ 100 ≤ hK h a; rw [hk]; omega)
    · rcases List.mem_append.mp hz with z | z
      · exact hL _ z
      · rw [List.mem_singleton.mp z]; exact hba
  by_cases hf : (r.2.1 k).2.2.2 = true
  · obtain ⟨hi1, hi2, hi3⟩ := hfin r hr hf
    rw [if_pos hf] at hlay
    have hcf : m.cls = cf := by
      obtain ⟨_, _, c', _, _, _, -, -, hf', -, -, -, hown2, -⟩ := Cond.laysFinal_spec hlay
      have e1 : c' = cf := by have := hi.symm.trans hf'; simp at this; exact this.1.symm
      rw [hi2] at hown2
      rw [← e1]; exact Option.some.inj (hc.2.2.2.2.2.2.1.symm.trans hown2)
    have h6 := u_fits hfc hkC hkind (Or.inr hlay) hi hd hsto.1 hsto.2
    exact W.putFinK hc.1 hc.2.1 hc.2.2.2.2.2.2.1 (hts _ hi3) hi hst hcf (hc.2.2.2.2.2.2.2.1.trans hi1) (by rw [q2]; exact h6) q1 q3 hslot rfl rfl hdg fin
  · rw [if_neg hf] at hlay
    have h6 := u_store hfc hkC hkind hlay hi hd hsto.1 hsto.2
    rcases hlink with h1 | ⟨host, h1⟩
    · exact W.putK hc.1 hc.2.1 (f := f) ⟨hc.2.2.2.2.2.2.1, hts _ h1, ⟨_, _, _, hi⟩, hst⟩ (by rw [q2]; exact h6) q1 q3 hslot rfl rfl hdg fin
    · exact va_WputK hc.1 hc.2.1 (f := f) hc.2.2.2.2.2.2.1 (va_Nw.use rfl (hc.2.2.2.2.2.2.2.2.2.1 _ h1)) hi hst (by rw [q2]; exact h6) q1 q3 hslot rfl rfl hdg fin
theorem gd_new {ci idx n : Nat} {r : vw_C} {ty : Nat → FieldType} {f : Nat → Value} (hr : vwCl[ci]? = some r) (hci : ci < 99) (hin : ∀ w ∈ u_ws r.1 r.2.1 r.2.2, w ∈ gW) (hty : ∀ k, k < r.2.2 → parseFieldDescriptor (r.2.1 k).2.2.1 = some (ty k)) (hf : ∀ k, k < r.2.2 → defaultValue (ty k) = f k)
    (h1 : Cond.classLink M.1 idx r.1 ∈ gW) (h2 : Cond.instantiable r.1 n ∈ gW) (h3 : Cond.initialized r.1 ∈ gW) (hdg : decode M.2.2.1 pc = .ok (.new idx, 3)) (hN' : hN h + 1 ≤ hN h') (hU' : hU h + n ≤ hU h')
    (kk : Gd C M fr lo h0 o' h' (pc + 3) lv (.ref (hN h) :: st) (hNew h (ci + 1) 0 n f)) : Gd C M fr lo h0 o' h' pc lv st h := by
  intro p e s m args below meth c H locs ls hc hR0 hR hn hu hL hl
  have hts : ∀ w ∈ gW, w.before args s = true := fun w hw => hc.2.2.2.2.2.2.2.2.1 w hw args
  have hKn := hc.2.2.2.2.2.2.2.2.2.2.1.1 ci _ hr
  obtain ⟨hS, hfc, kC, hkC, hkind⟩ := id hKn
  refine W.newc hc.1 hc.2.1 hc.2.2.2.2.2.2.1 (hts _ h1) (hts _ h2) (hts _ h3) (g := F0 m pc ls st) rfl hdg (by show hN h - hN h0 + 1 ≤ hN h' - hN h0; omega) (by show hU h - hU h0 + n ≤ hU h' - hU h0; omega) fun cC' kC' z1 z2 z3 z4 => ?_
  cases hfc.symm.trans z1
  cases hkC.symm.trans z2
  have hcell : (H.push (blank (cC C ci) kC))[hN h]? = some (blank (cC C ci) kC) := by rw [← hR.1]; simp
  have e1 : hN (hNew h (ci + 1) 0 n f) - hN h0 = hN h - hN h0 + 1 := by show hN h + 1 - hN h0 = _; omega
  have e2 : hU (hNew h (ci + 1) 0 n f) - hU h0 = hU h - hU h0 + n := by show hU h + n - hU h0 = _; omega
  have kk' := kk p e s m args below meth c (H.push (blank (cC C ci) kC)) locs ls hc hR0 (hR.push ⟨fun _ => ⟨r, ?_, ?_⟩, fun z => ?_⟩) (by show hN h0 ≤ hN h + 1; omega) (by show hU h0 ≤ hU h + n; omega) hL hl
  · rw [e1, e2] at kk'
    rw [hR.1]
    exact kk'
  · simp [hNew, hK]; exact hr
  · have hb := u_born (o := hN h) (H := H.push (blank (cC C ci) kC)) ty hts hin hKn hkC hcell hty
    have hb2 := hb.to hf
    simpa [hNew, hK, hV] using hb2
  · exact absurd z (by simp [hNew, hK]; omega)
end GD
end
section
/-! ARRAYS, RETURNS, EXCEPTIONS, CALLS at a point of a body -/
section GR
variable {C : Cx} {M : Mi} {h0 h h' h1 : Hp} {fr lo fr' lo' : Nat} {o o' : Out} {pc pc' : Nat} {lv lv' : List (Nat × Value)} {st st' rest : List Value}
theorem cTys_at {C : Cx} {t : Nat} (ht : t < 6) : (cTys C)[t]? = some (cA C t, aT t) := by
  match t, ht with
  | 0, _ => rfl
  | 1, _ => rfl
  | 2, _ => rfl
  | 3, _ => rfl
  | 4, _ => rfl
  | 5, _ => rfl
theorem gd_arr {s : State} {H : Heap} {a t : Nat} (hS : SF C s) (hR : Rel C h H) (hk : hK h a = 100 + t) (ht : t < 6) : cB C ≤ a ∧ H[a]? = some (arrV (cA C t) (hL h a) (hV h a)) ∧ (∀ (n : Nat) (z : Nat → Value), s.isArrayOf (arrV (cA C t) n z) (aT t)) ∧ va_RA s (cA C t) (aT t) := by
  obtain ⟨hb, -, hc⟩ := hR.2.2.2 a (by rw [hk]; omega)
  obtain ⟨-, he⟩ := hc.2 (by rw [hk]; omega) (by rw [hk]; omega)
  rw [hk, Nat.add_sub_cancel_left] at he
  have h2 := hS.2.2.1.2 t _ (cTys_at ht)
  exact ⟨hb, he, h2.1, h2.2⟩
theorem gd_alen {a t : Nat} (hk : hK h a = 100 + t) (ht : t < 6) (hdg : decode M.2.2.1 pc = .ok (.arraylength, 1))
    (kk : Gd C M fr lo h0 o' h' (pc + 1) lv (.int (nI (hL h a)) :: st) h) : Gd C M fr lo h0 o' h' pc lv (.ref a :: st) h := by
  intro p e s m args below meth c H locs ls hc hR0 hR hn hu hq hl
  obtain ⟨-, he, ha, -⟩ := gd_arr hc.2.2.2.2.2.2.2.2 hR hk ht
  exact W.alen hc.1 hc.2.1 he (ha _ _) (by rw [arrV_size]; rfl) rfl rfl hdg (kk p e s m args below meth c H locs ls hc hR0 hR hn hu hq hl)
theorem gd_bald {a : Nat} {i : Int32} (hk : hK h a = 100) (hi : vp_in i (hL h a)) (hdg : decode M.2.2.1 pc = .ok (.baload, 1))
    (kk : Gd C M fr lo h0 o' h' (pc + 1) lv (hV h a i.toNatClampNeg :: st) h) : Gd C M fr lo h0 o' h' pc lv (.int i :: .ref a :: st) h := by
  intro p e s m args below meth c H locs ls hc hR0 hR hn hu hq hl
  obtain ⟨-, he, ha, -⟩ := gd_arr (t := 0) hc.2.2.2.2.2.2.2.2 hR hk (by decide)
  have hlt : i.toNatClampNeg < hL h a := Nat.not_le.mp fun q => hi (Or.inr q)
  exact W.bald hc.1 hc.2.1 he (ha _ _) (fun q => by cases q) (by rw [arrV_size]; exact hi) (by rw [arrV_read _ _ hlt]) rfl rfl hdg (kk p e s m args below meth c H locs ls hc hR0 hR hn hu hq hl)
theorem gd_iald {a : Nat} {i : Int32} (hk : hK h a = 101) (hi : vp_in i (hL h a)) (hdg : decode M.2.2.1 pc = .ok (.iaload, 1))
    (kk : Gd C M fr lo h0 o' h' (pc + 1) lv (hV h a i.toNatClampNeg :: st) h) : Gd C M fr lo h0 o' h' pc lv (.int i :: .ref a :: st) h := by
  intro p e s m args below meth c H locs ls hc hR0 hR hn hu hq hl
  obtain ⟨-, he, ha, -⟩ := gd_arr (t := 1) hc.2.2.2.2.2.2.2.2 hR hk (by decide)
  have hlt : i.toNatClampNeg < hL h a := Nat.not_le.mp fun q => hi (Or.inr q)
  exact W.iald hc.1 hc.2.1 he (ha _ _) (fun q => by cases q) (by rw [arrV_size]; exact hi) (by rw [arrV_read _ _ hlt]) rfl rfl hdg (kk p e s m args below meth c H locs ls hc hR0 hR hn hu hq hl)
theorem gd_lald {a : Nat} {i : Int32} (hk : hK h a = 102) (hi : vp_in i (hL h a)) (hdg : decode M.2.2.1 pc = .ok (.laload, 1))
    (kk : Gd C M fr lo h0 o' h' (pc + 1) lv (hV h a i.toNatClampNeg :: st) h) : Gd C M fr lo h0 o' h' pc lv (.int i :: .ref a :: st) h := by
  intro p e s m args below meth c H locs ls hc hR0 hR hn hu hq hl
  obtain ⟨-, he, ha, -⟩ := gd_arr (t := 2) hc.2.2.2.2.2.2.2.2 hR hk (by decide)
  have hlt : i.toNatClampNeg < hL h a := Nat.not_le.mp fun q => hi (Or.inr q)
  exact W.lald hc.1 hc.2.1 he (ha _ _) (fun q => by cases q) (by rw [arrV_size]; exact hi) (by rw [arrV_read _ _ hlt]) rfl rfl hdg (kk p e s m args below meth c H locs ls hc hR0 hR hn hu hq hl)
theorem gd_aald {a t : Nat} {i : Int32} (hk : hK h a = 100 + t) (ht : t < 6) (hr : (aT t).isReference = true) (hi : vp_in i (hL h a)) (hdg : decode M.2.2.1 pc = .ok (.aaload, 1))
    (kk : Gd C M fr lo h0 o' h' (pc + 1) lv (hV h a i.toNatClampNeg :: st) h) : Gd C M fr lo h0 o' h' pc lv (.int i :: .ref a :: st) h := by
  intro p e s m args below meth c H locs ls hc hR0 hR hn hu hq hl
  obtain ⟨-, he, ha, -⟩ := gd_arr hc.2.2.2.2.2.2.2.2 hR hk ht
  have hlt : i.toNatClampNeg < hL h a := Nat.not_le.mp fun q => hi (Or.inr q)
  exact W.aald hc.1 hc.2.1 he (ha _ _) hr (fun q => by cases q) (by rw [arrV_size]; exact hi) (by rw [arrV_read _ _ hlt]) rfl rfl hdg (kk p e s m args below meth c H locs ls hc hR0 hR hn hu hq hl)
/-- what a store in an array leaves -/
theorem gd_ast {s : State} {H H1 : Heap} {a t j : Nat} {v : Value} (hS : SF C s) (hR : Rel C h H) (hk : hK h a = 100 + t) (ht : t < 6) (e1 : H1[a]? = some ((arrV (cA C t) (hL h a) (hV h a)).setSlot j v)) (e2 : H1.size = H.size) (e3 : ∀ q, q ≠ a → H1[q]? = H[q]?) : Rel C (hSet h a j v) H1 := by
  refine hR.put (by rw [hk]; omega) e2 e3 ⟨fun z => absurd z (by show ¬ hK h a < 100; rw [hk]; omega), fun _ _ => ⟨by show hK h a - 100 < 6; rw [hk]; omega, ?_⟩⟩
  show H1[a]? = some (arrV (cA C (hK h a - 100)) (hL h a) _)
  rw [hk, Nat.add_sub_cancel_left, e1, arrV_store]
  congr 2
  funext q
  by_cases hq : q = j
  · subst hq; simp [updV, hSet, hV]
  · simp [updV, hSet, hV, hq]
theorem gd_locs {locs : List Loc} {a j : Nat} (hq : ∀ l ∈ locs, cB C ≤ l.base) (ha : cB C ≤ a) : ∀ l ∈ locs ++ [(⟨a, j⟩ : Loc)], cB C ≤ l.base := fun z hz => by
  rcases List.mem_append.mp hz with z1 | z1
  · exact hq _ z1
  · rw [List.mem_singleton.mp z1]; exact ha
theorem gd_bast {a : Nat} {i x : Int32} (hk : hK h a = 100) (hi : vp_in i (hL h a)) (hdg : decode M.2.2.1 pc = .ok (.bastore, 1))
    (kk : Gd C M fr lo h0 o' h' (pc + 1) lv st (hSet h a i.toNatClampNeg (.int x.toInt8.toInt32))) : Gd C M fr lo h0 o' h' pc lv (.int x :: .int i :: .ref a :: st) h := by
  intro p e s m args below meth c H locs ls hc hR0 hR hn hu hq hl
  obtain ⟨hb, he, ha, -⟩ := gd_arr (t := 0) hc.2.2.2.2.2.2.2.2 hR hk (by decide)
  exact W.bast hc.1 hc.2.1 he (ha _ _) (fun q => by cases q) (by rw [arrV_size]; exact hi) rfl rfl hdg fun H1 e1 e2 e3 => kk p e s m args below meth c H1 _ ls hc hR0 (gd_ast (t := 0) hc.2.2.2.2.2.2.2.2 hR hk (by decide) e1 e2 e3) hn hu (gd_locs hq hb) hl
theorem gd_iast {a : Nat} {i x : Int32} (hk : hK h a = 101) (hi : vp_in i (hL h a)) (hdg : decode M.2.2.1 pc = .ok (.iastore, 1))
    (kk : Gd C M fr lo h0 o' h' (pc + 1) lv st (hSet h a i.toNatClampNeg (.int x))) : Gd C M fr lo h0 o' h' pc lv (.int x :: .int i :: .ref a :: st) h := by
  intro p e s m args below meth c H locs ls hc hR0 hR hn hu hq hl
  obtain ⟨hb, he, ha, -⟩ := gd_arr (t := 1) hc.2.2.2.2.2.2.2.2 hR hk (by decide)
  exact W.iast hc.1 hc.2.1 he (ha _ _) (fun q => by cases q) (by rw [arrV_size]; exact hi) rfl rfl hdg fun H1 e1 e2 e3 => kk p e s m args below meth c H1 _ ls hc hR0 (gd_ast (t := 1) hc.2.2.2.2.2.2.2.2 hR hk (by decide) e1 e2 e3) hn hu (gd_locs hq hb) hl
theorem gd_last {a : Nat} {i : Int32} {x : Int64} (hk : hK h a = 102) (hi : vp_in i (hL h a)) (hdg : decode M.2.2.1 pc = .ok (.lastore, 1))
    (kk : Gd C M fr lo h0 o' h' (pc + 1) lv st (hSet h a i.toNatClampNeg (.long x))) : Gd C M fr lo h0 o' h' pc lv (.long x :: .int i :: .ref a :: st) h := by
  intro p e s m args below meth c H locs ls hc hR0 hR hn hu hq hl
  obtain ⟨hb, he, ha, -⟩ := gd_arr (t := 2) hc.2.2.2.2.2.2.2.2 hR hk (by decide)
  exact W.last hc.1 hc.2.1 he (ha _ _) (fun q => by cases q) (by rw [arrV_size]; exact hi) rfl rfl hdg fun H1 e1 e2 e3 => kk p e s m args below meth c H1 _ ls hc hR0 (gd_ast (t := 2) hc.2.2.2.2.2.2.2.2 hR hk (by decide) e1 e2 e3) hn hu (gd_locs hq hb) hl
/-- an array of numbers is made -/
theorem gd_newa {t : Nat} {n : Int32} {at_ : ArrayType} (ht : t < 3) (hat : newarray.typeOf at_ = aT t) (hw : Cond.arrayClass (aT t) ∈ gW) (hn0 : ¬ n < 0) (hsz : n.toNatClampNeg ≤ 60000000) (hdg : decode M.2.2.1 pc = .ok (.newarray at_, 2)) (hN' : hN h + 1 ≤ hN h') (hU' : hU h + n.toNatClampNeg ≤ hU h')
    (kk : Gd C M fr lo h0 o' h' (pc + 2) lv (.ref (hN h) :: st) (hNew h (100 + t) n.toNatClampNeg n.toNatClampNeg (fun _ => defaultValue (aT t)))) : Gd C M fr lo h0 o' h' pc lv (.int n :: st) h := by
  intro p e s m args below meth c H locs ls hc hR0 hR hn hu hq hl
  have hts : ∀ w ∈ gW, w.before args s = true := fun w hw => hc.2.2.2.2.2.2.2.2.1 w hw args
  have h6 : t < 6 := by omega
  have hra := (hc.2.2.2.2.2.2.2.2.2.2.1.2 t _ (cTys_at h6)).2
  refine W.newa hc.1 hc.2.1 (by rw [hat]; exact hts _ hw) (g := F0 m pc ls (.int n :: st)) rfl hdg rfl hn0 (by rw [hat]; match t, ht with | 0, _ => (show n.toNatClampNeg * 1 ≤ _; omega) | 1, _ => (show n.toNatClampNeg * 4 ≤ _; omega) | 2, _ => (show n.toNatClampNeg * 8 ≤ _; omega)) (by show hN h - hN h0 + 1 ≤ hN h' - hN h0; omega) (by show hU h - hU h0 + n.toNatClampNeg ≤ hU h' - hU h0; omega) fun cA' kA comp z1 z2 z3 => ?_
  have hcA : cA' = cA C t := by
    rw [hat] at z1
    have h9 : s.vm.findClass ("[" ++ (aT t).toString) = some (cA C t) := by
      match t, ht, hra with
      | 0, _, hra => exact hra
      | 1, _, hra => exact hra
      | 2, _, hra => exact hra
    exact Option.some.inj (z1.symm.trans h9)
  subst hcA
  rw [hat, arrV_new]
  have e1 : hN (hNew h (100 + t) n.toNatClampNeg n.toNatClampNeg (fun _ => defaultValue (aT t))) - hN h0 = hN h - hN h0 + 1 := by show hN h + 1 - hN h0 = _; omega
  have e2 : hU (hNew h (100 + t) n.toNatClampNeg n.toNatClampNeg (fun _ => defaultValue (aT t))) - hU h0 = hU h - hU h0 + n.toNatClampNeg := by show hU h + n.toNatClampNeg - hU h0 = _; omega
  have kk' := kk p e s m args below meth c (H.push (arrV (cA C t) n.toNatClampNeg (fun _ => defaultValue (aT t)))) locs ls hc hR0 (hR.push ⟨fun z => absurd z (by simp [hNew, hK]), fun _ _ => ⟨by simp [hNew, hK]; omega, ?_⟩⟩) (by show hN h0 ≤ hN h + 1; omega) (by show hU h0 ≤ hU h + n.toNatClampNeg; omega) hq hl
  · rw [e1, e2] at kk'
    rw [hR.1]
    exact kk'
  · have e9 : (H.push (arrV (cA C t) n.toNatClampNeg (fun _ => defaultValue (aT t))))[hN h]? = some (arrV (cA C t) n.toNatClampNeg (fun _ => defaultValue (aT t))) := by rw [← hR.1]; simp
    rw [e9]
    simp [hNew, hK, hL, hV]
/-! returns -/
theorem xb_ret {p : Program} {l : Launch} {e : Env} {R : Room} {s : State} {m : MethodId} {args : Array Value} {below : List Frame} {meth : Method} {c : Code} {H : Heap} {locs : List Loc} {cells slots : Nat} {Qc : Array Value → State → Outcome → State → Prop} {free : Addr → Prop} {g : JFrame} {mc ms : Nat}
    (k : W p l e R s m args below meth c H locs cells slots (MQ below Qc args s mc ms free) g) : W p l e R s m args below meth c H locs cells slots (xb_MQ below Qc args s mc ms free) g := by
  intro T hT X
  obtain ⟨t, a1, o, b1, b2, b3, L, b4, b5⟩ := k T hT X
  exact ⟨t, a1, o, b1, b2, b3, b4.2.1, L, b4.2.2, b5⟩
theorem gd_iret {v : Int32} {ty : FieldType} (hr : M.2.2.2.2.1 = some ty) (hnr : narrow ty (.int v) = .int v) (hdg : decode M.2.2.1 pc = .ok (.ireturn, 1)) : Gd C M fr lo h0 (.inl (some (.int v))) h pc lv [.int v] h := by
  intro p e s m args below meth c H locs ls hc hR0 hR hn hu hq hl
  exact xb_ret (W.zret hc.1 hc.2.1 (hc.2.2.2.1.trans hr) hnr (fun t ht _ => ⟨by rw [ht]; exact hR, rfl⟩) hq hdg hc.2.2.2.2.1)
theorem gd_lret {v : Int64} (hr : M.2.2.2.2.1 = some .long) (hdg : decode M.2.2.1 pc = .ok (.lreturn, 1)) : Gd C M fr lo h0 (.inl (some (.long v))) h pc lv [.long v] h := by
  intro p e s m args below meth c H locs ls hc hR0 hR hn hu hq hl
  exact xb_ret (W.lret hc.1 hc.2.1 (hc.2.2.2.1.trans hr) (fun t ht _ => ⟨by rw [ht]; exact hR, rfl⟩) hq hdg hc.2.2.2.2.1)
theorem gd_vret (hr : M.2.2.2.2.1 = none) (hdg : decode M.2.2.1 pc = .ok (.return_, 1)) : Gd C M fr lo h0 (.inl none) h pc lv [] h := by
  intro p e s m args below meth c H locs ls hc hR0 hR hn hu hq hl
  exact xb_ret (W.vret hc.1 hc.2.1 (hc.2.2.2.1.trans hr) (fun t ht _ => ⟨by rw [ht]; exact hR, rfl⟩) hq hdg hc.2.2.2.2.1)
theorem gd_aret {v : Value} {rt : FieldType} (hr : M.2.2.2.2.1 = some rt) (hrt : (∃ n, rt = .object n) ∨ ∃ t, rt = .array t) (hv : v = .null ∨ ∃ a, v = .ref a) (hdg : decode M.2.2.1 pc = .ok (.areturn, 1)) : Gd C M fr lo h0 (.inl (some v)) h pc lv [v] h := by
  intro p e s m args below meth c H locs ls hc hR0 hR hn hu hq hl
  exact xb_ret (W.aret hc.1 hc.2.1 (hc.2.2.2.1.trans hr) hrt hv (fun t ht _ => ⟨by rw [ht]; exact hR, rfl⟩) hq hdg hc.2.2.2.2.1)
/-! an exception stands over the frame: of the kind kd (16: the reference's own, at a; 200 and on: one of the JDK's, wherever) -/
def XI (h : Hp) (kd a : Nat) (s : State) (H : Heap) (q : Nat) : Prop := (kd = 16 ∧ q = a ∧ hK h a = 16) ∨ (200 ≤ kd ∧ ExC (kd - 200) s H q)
def Gx (C : Cx) (M : Mi) (fr lo : Nat) (h0 : Hp) (o' : Out) (h' : Hp) (pc : Nat) (lv : List (Nat × Value)) (st : List Value) (h : Hp) (kd a : Nat) : Prop :=
  ∀ (p : Program) (e : Env) (s : State) (m : MethodId) (args : Array Value) (below : List Frame) (meth : Method) (c : Code) (H : Heap) (locs : List Loc) (ls : Array Slot) (q : Nat),
    Ctx C M p s m meth c → Rel C h0 s.heap → Rel C h H → hN h0 ≤ hN h → hU h0 ≤ hU h → (∀ l ∈ locs, cB C ≤ l.base) → lv_has ls M.2.2.2.1 lv → XI h kd a s H q →
    vx_W p (cL C) e (RmOf fr lo h0 h') s m args below meth c H locs (hN h - hN h0) (hU h - hU h0) (xb_MQ below (QO C o' h') args s (hN h' - hN h0) (hU h' - hU h0) (fun q => cB C ≤ q)) (F0 m pc ls st) q
theorem gx_out {kd a : Nat} (hh : ∀ q ∈ M.2.2.2.2.2, ¬ (q.1 ≤ pc ∧ pc < q.2.1)) : Gx C M fr lo h0 (.inr (kd, a)) h pc lv st h kd a := by
  intro p e s m args below meth c H locs ls q hc hR0 hR hn hu hq hl hx
  refine xb_out (fun x hx => ?_) hc.2.2.2.2.1 (fun t ht hW => ⟨by rw [ht]; exact hR, q, rfl, ?_⟩) hq (Nat.le_refl _) (Nat.le_refl _)
  · have h1 := hh (xb_hh x) (by rw [← hc.2.2.2.2.2.1]; exact List.mem_map_of_mem hx)
    simp only [covers, xb_hh] at h1 ⊢
    by_cases e1 : x.startPc ≤ pc
    · by_cases e2 : pc < x.endPc
      · exact absurd ⟨e1, e2⟩ h1
      · simp [e2]
    · simp [e1]
  · rw [ht]; exact hx
theorem gx_table {c : Code} {a b d f : Nat} (h : c.exceptionTable.toList.map xb_hh = [(a, b, d, f)]) : ∃ x, c.exceptionTable.toList = [x] ∧ x.startPc = a ∧ x.endPc = b ∧ x.handlerPc = d ∧ x.catchType = f := by
  cases hl : c.exceptionTable.toList with
  | nil => rw [hl] at h; cases h
  | cons x t =>
    cases t with
    | cons y t => rw [hl] at h; simp at h
    | nil =>
      rw [hl] at h
      simp [xb_hh] at h
      exact ⟨x, rfl, h.1, h.2.1, h.2.2.1, h.2.2.2⟩
theorem gx_catch16 {a s0 e0 hpc ct : Nat} (hh : M.2.2.2.2.2 = [(s0, e0, hpc, ct)]) (h1 : s0 ≤ pc) (h2 : pc < e0) (h3 : ct ≠ 0) (hw : Cond.classLink M.1 ct "PathHouseModel$Stop" ∈ gW)
    (kk : Gd C M fr lo h0 o' h' hpc lv [.ref a] h) : Gx C M fr lo h0 o' h' pc lv st h 16 a := by
  intro p e s m args below meth c H locs ls q hc hR0 hR hn hu hq hl hx
  obtain ⟨x, x1, x2, x3, x4, x5⟩ := gx_table (hc.2.2.2.2.2.1.trans hh)
  rcases hx with ⟨-, rfl, hk⟩ | ⟨h9, -⟩
  · obtain ⟨-, -, hcell⟩ := hR.2.2.2 q (by rw [hk]; decide)
    obtain ⟨r, hr, cell, q1, q2, q3, -⟩ := hcell.1 (by rw [hk]; decide)
    rw [hk] at hr q2
    obtain ⟨-, hfc, -⟩ := hc.2.2.2.2.2.2.2.2.2.2.1.1 15 _ hr
    have hr9 : r.1 = "PathHouseModel$Stop" := by have : r = (RX14, TX14, 8) := Option.some.inj (hr.symm.trans rfl); rw [this]; rfl
    rw [hr9] at hfc
    subst x4
    exact xb_catch hc.2.2.2.2.2.2.1 (suf := []) x1 (by simp [covers, x2, x3, h1, h2]) (by rw [x5]; exact h3) (by rw [x5]; exact hc.2.2.2.2.2.2.2.2.1 _ hw args) (hc.2.2.2.2.2.2.2.2.2.2.2.1 ("PathHouseModel$Stop", "PathHouseModel$Stop") (by simp [cWl])) q1 q3 (by rw [q2]; exact hfc) (kk p e s m args below meth c H locs ls hc hR0 hR hn hu hq hl)
  · omega
theorem lv_less {ls : Array Slot} {n : Nat} {l l' : List (Nat × Value)} (h : lv_has ls n l) (hs : ∀ q ∈ l', q ∈ l) : lv_has ls n l' := ⟨h.1, h.2.1, fun q hq => h.2.2 q (hs q hq)⟩
/-- caught, and put away where nobody looks -/
theorem gx_catchX {e9 a s0 e0 hpc ct k : Nat} (he : e9 < 3) (hh : M.2.2.2.2.2 = [(s0, e0, hpc, ct)]) (h1 : s0 ≤ pc) (h2 : pc < e0) (h3 : ct ≠ 0) (hw : Cond.classLink M.1 ct (exN e9) ∈ gW) (hkn : k < M.2.2.2.1)
    (hdg : (∃ k4 : Fin 4, decode M.2.2.1 hpc = .ok (.astore_n k4, 1) ∧ (k4 : Nat) = k ∧ pc' = hpc + 1) ∨ (decode M.2.2.1 hpc = .ok (.astore k, 2) ∧ pc' = hpc + 2))
    (kk : Gd C M fr lo h0 o' h' pc' (lv.filter (fun q => !(q.1 == k) && !(q.1 + 1 == k && q.2.category == 2))) [] h) : Gx C M fr lo h0 o' h' pc lv st h (200 + e9) a := by
  intro p e s m args below meth c H locs ls q hc hR0 hR hn hu hq hl hx
  obtain ⟨x, x1, x2, x3, x4, x5⟩ := gx_table (hc.2.2.2.2.2.1.trans hh)
  rcases hx with ⟨h9, -⟩ | ⟨-, ce, q1, q3, hfc⟩
  · omega
  · rw [Nat.add_sub_cancel_left] at hfc
    subst x4
    refine xb_catch hc.2.2.2.2.2.2.1 (suf := []) x1 (by simp [covers, x2, x3, h1, h2]) (by rw [x5]; exact h3) (by rw [x5]; exact hc.2.2.2.2.2.2.2.2.1 _ hw args) (hc.2.2.2.2.2.2.2.2.2.2.2.1 (exN e9, exN e9) (by match e9, he with | 0, _ => simp [cWl, exN] | 1, _ => simp [cWl, exN] | 2, _ => simp [cWl, exN])) q1 q3 hfc ?_
    rcases hdg with ⟨k4, d1, d2, rfl⟩ | ⟨d1, rfl⟩
    · exact lv_astore_n hc.1 hc.2.1 d1 d2 hl hkn rfl (fun ls hl => kk p e s m args below meth c H locs ls hc hR0 hR hn hu hq (lv_less hl (fun q hq => List.mem_cons_of_mem _ hq)))
    · exact lv_astore hc.1 hc.2.1 d1 hl hkn rfl (fun ls hl => kk p e s m args below meth c H locs ls hc hR0 hR hn hu hq (lv_less hl (fun q hq => List.mem_cons_of_mem _ hq)))
theorem gd_athrow {a : Nat} (hk : hK h a = 16) (hdg : decode M.2.2.1 pc = .ok (.athrow, 1)) (kk : Gx C M fr lo h0 o' h' pc lv st h 16 a) : Gd C M fr lo h0 o' h' pc lv (.ref a :: st) h := by
  intro p e s m args below meth c H locs ls hc hR0 hR hn hu hq hl
  intro T hT X
  obtain ⟨t, a1, b1⟩ := kk p e s m args below meth c H locs ls a hc hR0 hR hn hu hq hl (Or.inl ⟨rfl, rfl, hk⟩) T hT X
  refine ⟨t, ?_, b1⟩
  have hdg' : decode c.code pc = .ok (.athrow, 1) := by rw [hc.2.1]; exact hdg
  jvm_step X.here [hc.1, hdg', athrow.wp_sem]
  exact a1
end GR
end
section
/-! CALLS -/
/-- the callee's contract, over the abstract heap: from h with the arguments as it ends in o with heap h1 -/
def CM (C : Cx) (fr lo : Nat) (y : MethodName) (cw : Cond) (as : List Value) (h : Hp) (o : Out) (h1 : Hp) : Prop :=
  xb_Met (cL C) y cw (RmOf fr lo h h1) (fun v U => v = as.toArray ∧ SF C U ∧ Rel C h U.heap) (QO C o h1) (hN h1 - hN h) (hU h1 - hU h) (fun q => cB C ≤ q)
/-- what the walk goes on with behind a call -/
def Aft (C : Cx) (M : Mi) (fr lo : Nat) (h0 : Hp) (o' : Out) (h' : Hp) (pc : Nat) (lv : List (Nat × Value)) (rest : List Value) (o : Out) (h1 : Hp) : Prop := match o with
  | .inl v => Gd C M fr lo h0 o' h' (pc + 3) lv (v.toList ++ rest) h1
  | .inr (kd, a) => Gx C M fr lo h0 o' h' pc lv rest h1 kd a
section GC
variable {C : Cx} {M : Mi} {h0 h h' h1 : Hp} {fr lo fr' lo' : Nat} {o o' : Out} {pc pc' : Nat} {lv lv' : List (Nat × Value)} {st st' rest : List Value}
/-- behind the invoking instruction's own part -/
theorem gd_callB {p : Program} {e : Env} {s : State} {m : MethodId} {args : Array Value} {below : List Frame} {meth : Method} {c : Code} {locs : List Loc} {ls : Array Slot} {T : State} {vm₁ : Vm} {mk : MethodId} {ig : Instr} {as : List Value} {y : MethodName} {cw : Cond} {bytes : ByteArray} {maxL : Nat} {ret : Option FieldType} {hh : List (Nat × Nat × Nat × Nat)}
    (hM : CM C fr' lo' y cw as h o h1) (his : xb_Is y cw bytes maxL ret hh) (hcw : cw ∈ gW) (hini : Cond.initialized y.cls ∈ gW) (hfr : fr' + 1 ≤ fr) (hlo : 8 + (maxL + 11) + lo' ≤ lo)
    (hn1 : hN h ≤ hN h1) (hu1 : hU h ≤ hU h1) (hn2 : hN h1 ≤ hN h') (hu2 : hU h1 ≤ hU h')
    (hc : Ctx C M p s m meth c) (hR0 : Rel C h0 s.heap) (hR : Rel C h T.heap) (hn : hN h0 ≤ hN h) (hu : hU h0 ≤ hU h) (hq : ∀ l ∈ locs, cB C ≤ l.base) (hl : lv_has ls M.2.2.2.1 lv)
    (X₁ : Stand p (cL C) e (RmOf fr lo h0 h') s m args below meth c (T.setVm vm₁) locs (hN h - hN h0) (hU h - hU h0)) (hnamed : (T.setVm vm₁).methodNamed? y = some mk)
    (hdg : decode M.2.2.1 pc = .ok (ig, 3)) (hW : (rest.map fun v => v.category).sum ≤ 8)
    (kk : Aft C M fr lo h0 o' h' pc lv rest o h1) {G : State}
    (hstep : ∀ target, (∀ acts, Steps p.tables e below (doInvoke e ((T.setVm vm₁).setTop (F0 m pc ls rest)) acts mk as.toArray).1 target) → Steps p.tables e below G target) :
    ∃ t, Steps p.tables e below G t ∧ xb_MQ below (QO C o' h') args s (hN h' - hN h0) (hU h' - hU h0) (fun q => cB C ≤ q) t := by
  have hSF : SF C (T.setVm vm₁) := SF.warm X₁.warmed hc.2.2.2.2.2.2.2.2
  have hw8 : 2 * (F0 m pc ls rest).monitorRoom + ((F0 m pc ls rest).stack.map fun v => v.category).sum ≤ 8 := lv_room (m := m) (pc := pc) (ls := ls) (rest := rest) hW
  have ec : hN h - hN h0 + (hN h1 - hN h) = hN h1 - hN h0 := by omega
  have es : hU h - hU h0 + (hU h1 - hU h) = hU h1 - hU h0 := by omega
  rcases xb_back (R := RmOf fr lo h0 h') (W9 := 8) (len := 3) (ig := ig) hM his rfl rfl hfr hlo (g := F0 m pc ls rest) X₁ rfl (hl.1.trans hc.2.2.1.symm) (by rw [hc.2.1]; exact hdg) hw8 hnamed (by show hN h - hN h0 + (hN h1 - hN h) ≤ hN h' - hN h0; omega) (by show hU h - hU h0 + (hU h1 - hU h) ≤ hU h' - hU h0; omega) (hSF.1 cw hcw _) (hSF.1 _ hini _) ⟨rfl, SF.warm (s := T.setVm vm₁) (U := (T.setVm vm₁).calling (F0 m pc ls rest) mk as.toArray) (State.WarmedH.refl (T.setVm vm₁)) hSF, hR⟩ with ⟨v, t, U', L, X', hL, e1, e2, hqo, hsteps⟩ | ⟨q, t, U', L, X', hL, e1, e2, hqo, hsteps⟩
  · rw [ec, es] at X'
    obtain ⟨hR1, hm⟩ := hqo
    have hlocs : ∀ z ∈ locs ++ L, cB C ≤ z.base := fun z hz => (List.mem_append.mp hz).elim (hq z) (hL z)
    cases o with
    | inl v0 =>
      cases hm
      obtain ⟨t2, a1, b1⟩ := kk p e s m args below meth c U'.heap (locs ++ L) ls hc hR0 (by rw [e1]; exact hR1) (Nat.le_trans hn hn1) (Nat.le_trans hu hu1) hlocs hl U' rfl X'
      exact ⟨t2, hstep t2 fun acts => by rw [doInvoke_state]; exact hsteps.trans a1, b1⟩
    | inr x =>
      obtain ⟨q, hm, -⟩ := hm
      cases hm
  · rw [ec, es] at X'
    obtain ⟨hR1, hm⟩ := hqo
    have hlocs : ∀ z ∈ locs ++ L, cB C ≤ z.base := fun z hz => (List.mem_append.mp hz).elim (hq z) (hL z)
    cases o with
    | inl v0 => cases hm
    | inr x =>
      obtain ⟨kd, a⟩ := x
      obtain ⟨q9, hm, hx⟩ := hm
      cases hm
      have hx' : XI h1 kd a s U'.heap q := by
        rcases hx with z | ⟨z1, ce, z2, z3, z4⟩
        · exact Or.inl z
        · refine Or.inr ⟨z1, ce, by rw [e1]; exact z2, z3, ?_⟩
          have z5 : (T.setVm vm₁).vm.findClass (exN (kd - 200)) = some ce.cls := z4
          rw [X₁.warmed.alike.findClass] at z5
          exact z5
      obtain ⟨t2, a1, b1⟩ := kk p e s m args below meth c U'.heap (locs ++ L) ls q hc hR0 (by rw [e1]; exact hR1) (Nat.le_trans hn hn1) (Nat.le_trans hu hu1) hlocs hl hx' U' rfl X'
      exact ⟨t2, hstep t2 fun acts => by rw [doInvoke_state]; exact hsteps.trans a1, b1⟩
def ML (M : Mi) (idx : Nat) (y : MethodName) : Prop := Cond.methodLink M.1 idx y ∈ gW ∨ ∃ host, Cond.methodLinkNest M.1 idx y host ∈ nW
theorem gd_callV {b ci idx : Nat} {r : vw_C} {as : List Value} {y : MethodName} {cw : Cond} {bytes : ByteArray} {maxL : Nat} {ret : Option FieldType} {hh : List (Nat × Nat × Nat × Nat)}
    (hM : CM C fr' lo' y cw (.ref b :: as) h o h1) (his : xb_Is y cw bytes maxL ret hh) (hcw : cw ∈ gW) (hini : Cond.initialized y.cls ∈ gW) (hfr : fr' + 1 ≤ fr) (hlo : 8 + (maxL + 11) + lo' ≤ lo)
    (hn1 : hN h ≤ hN h1) (hu1 : hU h ≤ hU h1) (hn2 : hN h1 ≤ hN h') (hu2 : hU h1 ≤ hU h')
    (hr : vwCl[ci]? = some r) (hci : ci < 99) (hk : hK h b = ci + 1) (hlink : ML M idx y) (hinst : Cond.instanceMethod y ∈ gW) (hsel : Cond.selects r.1 y y ∈ gW) (hy : y.cls ≠ "java/lang/invoke/MethodHandle" ∧ y.cls ≠ "java/lang/invoke/VarHandle")
    (hlen : ∀ sig, parseMethodDescriptor y.desc = some sig → as.length = sig.parameters.length) (hdg : decode M.2.2.1 pc = .ok (.invokevirtual idx, 3)) (hW : (rest.map fun v => v.category).sum ≤ 8)
    (kk : Aft C M fr lo h0 o' h' pc lv rest o h1) : Gd C M fr lo h0 o' h' pc lv (as.reverse ++ .ref b :: rest) h := by
  intro p e s m args below meth c H locs ls hc hR0 hR hn hu hq hl T hT X
  have hts : ∀ w ∈ gW, w.before args s = true := fun w hw => hc.2.2.2.2.2.2.2.2.1 w hw args
  obtain ⟨-, -, hcell⟩ := hR.2.2.2 b (by rw [hk]; omega)
  obtain ⟨r9, hr9, cellB, hcB, hclB, hvB, -⟩ := hcell.1 (by rw [hk]; omega)
  rw [hk, Nat.add_sub_cancel] at hclB
  obtain ⟨-, hfc, -⟩ := hc.2.2.2.2.2.2.2.2.2.2.1.1 ci _ hr
  obtain ⟨mk, methM, hnamed, hmethM, hstM, habM⟩ := Cond.instanceMethod_spec (hts _ hinst)
  obtain ⟨methM', cM, hmethM', -, -, -, -, -, -, hsigM⟩ := his args s mk (hts _ hcw) hnamed
  cases hmethM.symm.trans hmethM'
  obtain ⟨c2, r2, m2, q1, q2, q3, q4, kP, hkP, hkPi⟩ := Cond.selects_spec (hts _ hsel)
  cases hfc.symm.trans q1
  cases (State.methodFound?_of_named hnamed hy).symm.trans q2
  cases hnamed.symm.trans q3
  have hselP : selectMethod e.platform s.vm cellB.cls mk = .method mk := by rw [Launch.admits_selectMethod X.admits, hclB]; exact q4
  have hdg' : decode c.code pc = .ok (.invokevirtual idx, 3) := by rw [hc.2.1]; exact hdg
  rcases hlink with h1 | ⟨host, h1⟩
  · obtain ⟨vm₁, X₁, hstep₁⟩ := X.invokevirtual hc.1 hc.2.2.2.2.2.2.1 (hts _ h1) hnamed hmethM hstM hkP hkPi hy (a := b) (cell := cellB) (by rw [hT]; exact hcB)
      (fun z h => by rw [hvB] at h; cases h) hselP hmethM habM hkP hkPi (g := F0 m pc ls (as.reverse ++ .ref b :: rest)) rfl (argsL := as) (rest := rest) (hlen _ hsigM) rfl hdg'
    exact gd_callB hM his hcw hini hfr hlo hn1 hu1 hn2 hu2 hc hR0 (by rw [hT]; exact hR) hn hu hq hl X₁ (X₁.named hnamed) hdg hW kk hstep₁
  · obtain ⟨vm₁, X₁, hstep₁⟩ := X.invokevirtualNest hc.1 hc.2.2.2.2.2.2.1 (va_Nw.use rfl (hc.2.2.2.2.2.2.2.2.2.1 _ h1)) hnamed hmethM hstM hkP hkPi hy (a := b) (cell := cellB) (by rw [hT]; exact hcB)
      (fun z h => by rw [hvB] at h; cases h) hselP hmethM habM hkP hkPi (g := F0 m pc ls (as.reverse ++ .ref b :: rest)) rfl (argsL := as) (rest := rest) (hlen _ hsigM) rfl hdg'
    exact gd_callB hM his hcw hini hfr hlo hn1 hu1 hn2 hu2 hc hR0 (by rw [hT]; exact hR) hn hu hq hl X₁ (X₁.named hnamed) hdg hW kk hstep₁
theorem gd_callS {idx : Nat} {as : List Value} {y : MethodName} {cw : Cond} {bytes : ByteArray} {maxL : Nat} {ret : Option FieldType} {hh : List (Nat × Nat × Nat × Nat)}
    (hM : CM C fr' lo' y cw as h o h1) (his : xb_Is y cw bytes maxL ret hh) (hcn : ∀ (A : Array Value) (s : State), cw.before A s = true → ∃ mk, s.methodNamed? y = some mk) (hcw : cw ∈ gW) (hini : Cond.initialized y.cls ∈ gW) (hfr : fr' + 1 ≤ fr) (hlo : 8 + (maxL + 11) + lo' ≤ lo)
    (hn1 : hN h ≤ hN h1) (hu1 : hU h ≤ hU h1) (hn2 : hN h1 ≤ hN h') (hu2 : hU h1 ≤ hU h')
    (hlink : ML M idx y) (hstat : Cond.static y ∈ gW) (hy : y.cls ≠ "java/lang/invoke/MethodHandle" ∧ y.cls ≠ "java/lang/invoke/VarHandle")
    (hlen : ∀ sig, parseMethodDescriptor y.desc = some sig → as.length = sig.parameters.length) (hdg : decode M.2.2.1 pc = .ok (.invokestatic idx, 3)) (hW : (rest.map fun v => v.category).sum ≤ 8)
    (kk : Aft C M fr lo h0 o' h' pc lv rest o h1) : Gd C M fr lo h0 o' h' pc lv (as.reverse ++ rest) h := by
  intro p e s m args below meth c H locs ls hc hR0 hR hn hu hq hl T hT X
  have hts : ∀ w ∈ gW, w.before args s = true := fun w hw => hc.2.2.2.2.2.2.2.2.1 w hw args
  obtain ⟨mk, hnamed⟩ := hcn args s (hts _ hcw)
  obtain ⟨methM, cM, hmethM, -, -, -, -, -, -, hsigM⟩ := his args s mk (hts _ hcw) hnamed
  have hstatic : methM.isStatic = true := Cond.static_spec hnamed hmethM (hts _ hstat)
  obtain ⟨kP, hkP, -⟩ := className_of_methodNamed hnamed
  have hinitP : kP.init = .initialized := Cond.initialized_spec (findClass_of_methodNamed hnamed) hkP (hts _ hini)
  have hdg' : decode c.code pc = .ok (.invokestatic idx, 3) := by rw [hc.2.1]; exact hdg
  rcases hlink with h1 | ⟨host, h1⟩
  · obtain ⟨vm₁, X₁, hstep₁⟩ := X.invokestatic hc.1 hc.2.2.2.2.2.2.1 (hts _ h1) hnamed hmethM hstatic hkP hinitP hy (g := F0 m pc ls (as.reverse ++ rest)) rfl (argsL := as) (rest := rest) (hlen _ hsigM) rfl hdg'
    exact gd_callB hM his hcw hini hfr hlo hn1 hu1 hn2 hu2 hc hR0 (by rw [hT]; exact hR) hn hu hq hl X₁ (X₁.named hnamed) hdg hW kk hstep₁
  · obtain ⟨vm₁, X₁, hstep₁⟩ := X.invokestaticNest hc.1 hc.2.2.2.2.2.2.1 (va_Nw.use rfl (hc.2.2.2.2.2.2.2.2.2.1 _ h1)) hnamed hmethM hstatic hkP hinitP hy (g := F0 m pc ls (as.reverse ++ rest)) rfl (argsL := as) (rest := rest) (hlen _ hsigM) rfl hdg'
    exact gd_callB hM his hcw hini hfr hlo hn1 hu1 hn2 hu2 hc hR0 (by rw [hT]; exact hR) hn hu hq hl X₁ (X₁.named hnamed) hdg hW kk hstep₁
theorem gd_callI {b idx : Nat} {as : List Value} {y : MethodName} {bytes : ByteArray} {maxL : Nat}
    (hM : CM C fr' lo' y (.code y bytes maxL none) (.ref b :: as) h o h1) (hcw : Cond.code y bytes maxL none ∈ gW) (hini : Cond.initialized y.cls ∈ gW) (hfr : fr' + 1 ≤ fr) (hlo : 8 + (maxL + 11) + lo' ≤ lo)
    (hn1 : hN h ≤ hN h1) (hu1 : hU h ≤ hU h1) (hn2 : hN h1 ≤ hN h') (hu2 : hU h1 ≤ hU h')
    (hlink : ML M idx y) (hname : y.name = "<init>") (hinst : Cond.instanceMethod y ∈ gW) (hy : y.cls ≠ "java/lang/invoke/MethodHandle" ∧ y.cls ≠ "java/lang/invoke/VarHandle")
    (hlen : ∀ sig, parseMethodDescriptor y.desc = some sig → as.length = sig.parameters.length) (hdg : decode M.2.2.1 pc = .ok (.invokespecial idx, 3)) (hW : (rest.map fun v => v.category).sum ≤ 8)
    (kk : Aft C M fr lo h0 o' h' pc lv rest o h1) : Gd C M fr lo h0 o' h' pc lv (as.reverse ++ .ref b :: rest) h := by
  intro p e s m args below meth c H locs ls hc hR0 hR hn hu hq hl T hT X
  have hts : ∀ w ∈ gW, w.before args s = true := fun w hw => hc.2.2.2.2.2.2.2.2.1 w hw args
  have hpl : e.platform.magicAccessors = ({} : Platform).magicAccessors := by rw [X.admits.platform]
  have hdg' : decode c.code pc = .ok (.invokespecial idx, 3) := by rw [hc.2.1]; exact hdg
  rcases hlink with h1 | ⟨host, h1⟩
  · obtain ⟨mk, methM, cM, kP, vm₁, hnamed, -, -, -, -, -, -, -, hW₁, hstep₁⟩ := Steps.initColdArgs (e := e) X.here hc.1 X.warmed hpl hc.2.2.2.2.2.2.1 hname hy (hts _ h1) (hts _ hinst) (hts _ hcw) (f := F0 m pc ls (as.reverse ++ .ref b :: rest)) rfl hlen rfl hdg'
    have X₁ := X.noted hW₁
    exact gd_callB hM xb_is_code hcw hini hfr hlo hn1 hu1 hn2 hu2 hc hR0 (by rw [hT]; exact hR) hn hu hq hl X₁ (X₁.named hnamed) hdg hW kk hstep₁
  · obtain ⟨mk, methM, cM, kP, vm₁, hnamed, -, -, -, -, -, -, -, hW₁, hstep₁⟩ := Steps.initColdArgsNest (e := e) X.here hc.1 X.warmed hpl hc.2.2.2.2.2.2.1 hname hy (va_Nw.use rfl (hc.2.2.2.2.2.2.2.2.2.1 _ h1)) (hts _ hinst) (hts _ hcw) (f := F0 m pc ls (as.reverse ++ .ref b :: rest)) rfl hlen rfl hdg'
    have X₁ := X.noted hW₁
    exact gd_callB hM xb_is_code hcw hini hfr hlo hn1 hu1 hn2 hu2 hc hR0 (by rw [hT]; exact hR) hn hu hq hl X₁ (X₁.named hnamed) hdg hW kk hstep₁
theorem gd_objInit {b idx : Nat} (hlink : Cond.methodLink M.1 idx Lib.objectInit ∈ gW) (hinst : Cond.instanceMethod Lib.objectInit ∈ gW) (hcode : Cond.code Lib.objectInit ⟨#[0xb1]⟩ 1 none ∈ gW) (hfr : 1 ≤ fr) (hlo : 20 ≤ lo) (hW : (rest.map fun v => v.category).sum ≤ 8)
    (hdg : decode M.2.2.1 pc = .ok (.invokespecial idx, 3)) (kk : Gd C M fr lo h0 o' h' (pc + 3) lv rest h) : Gd C M fr lo h0 o' h' pc lv (.ref b :: rest) h := by
  intro p e s m args below meth c H locs ls hc hR0 hR hn hu hq hl
  have hts : ∀ w ∈ gW, w.before args s = true := fun w hw => hc.2.2.2.2.2.2.2.2.1 w hw args
  have hw8 : 2 * (F0 m pc ls rest).monitorRoom + (rest.map fun v => v.category).sum ≤ 8 := lv_room (m := m) (pc := pc) (ls := ls) (rest := rest) hW
  refine W.objInit hc.1 hc.2.1 hc.2.2.2.2.2.2.1 (hts _ hlink) (hts _ hinst) (hts _ hcode) (g := F0 m pc ls (.ref b :: rest)) rfl (hl.1.trans hc.2.2.1.symm) rfl hdg hfr ?_ (kk p e s m args below meth c H locs ls hc hR0 hR hn hu hq hl)
  have h9 : 2 * (F0 m pc ls (.ref b :: rest)).monitorRoom = 2 * (F0 m pc ls rest).monitorRoom := rfl
  show 2 * (F0 m pc ls (.ref b :: rest)).monitorRoom + (rest.map fun v => v.category).sum + 12 ≤ lo
  omega
end GC
/-- a contract out of a walk of the body -/
theorem CM_of {C : Cx} {fr lo : Nat} {y : MethodName} {cw : Cond} {bytes : ByteArray} {maxL : Nat} {ret : Option FieldType} {hh : List (Nat × Nat × Nat × Nat)} {as : List Value} {h : Hp} {o : Out} {h1 : Hp} (hy : plainName y.cls = true) (his : xb_Is y cw bytes maxL ret hh) (hsz : (lg_sl as).length ≤ maxL)
    (k : Gd C (y.cls, y.name, bytes, maxL, ret, hh) fr lo h o h1 0 (lv_args 0 as) [] h) : CM C fr lo y cw as h o h1 := by
  refine xb_ofW hy his ?_
  intro p e s m args below meth c s₁ B hml hht hP
  obtain ⟨rfl, hSF, hR⟩ := hP
  have hl := lv_entry as (n := maxL) hsz
  rw [lg_entry_eq]
  generalize (lg_sl as ++ List.replicate (maxL - (lg_sl as).length) Slot.unset).toArray = ls at hl ⊢
  have k9 := k p e s m as.toArray below meth c s.heap [] ls ⟨B.exec, B.bytes, hml, B.returns, B.notSynchronized, hht, findClass_of_methodNamed B.named, (name_of_methodNamed B.named B.method).1, hSF⟩ hR hR (Nat.le_refl _) (Nat.le_refl _) (fun _ hz => by cases hz) hl
  rw [Nat.sub_self, Nat.sub_self] at k9
  exact k9
end
section
/-! throw new E("text"), the new cell known (after vx_throwS) -/
theorem xb_throwS {p : Program} {l : Launch} {e : Env} {R : Room} {s : State} {m : MethodId} {args : Array Value} {below : List Frame} {meth : Method} {c : Code} {H : Heap} {locs : List Loc} {cells slots : Nat} {free : Addr → Prop} {ls : Array Slot} {rest : List Value} {Qc : Array Value → State → Outcome → State → Prop} {cc : ByteArray} {pc : Nat} (hexec : p.tables.exec = Jvm.exec) (hb : c.code = cc) (hl : l.stackTraces = false) {own cls text : String} {names : List String} {ik is ic mc ms sa : Nat} {A : Nat → Prop}
    (hown : s.vm.findClass own = some m.cls) (hcls : Bundle.fit cls = true) (hnames : ∀ n ∈ names, Bundle.fit n = true)
    (hk : (Cond.classLink own ik cls).before args s = true) (hini : (Cond.initialized cls).before args s = true) (hstr : vk_R own is text sa s) (hat : ∀ w ∈ vx_atS own ic cls names, w.before args s = true)
    (hgood : ∀ w ∈ Cond.classLink own ik cls :: Cond.initialized cls :: vx_atS own ic cls names, vx_ot w = true)
    (hU : vx_Zq Bundle.tN "UNASSIGNED_STACK" Bundle.steD A s s.heap) (hN : vx_Zq Bundle.tN "SUPPRESSED_SENTINEL" Bundle.listD A s s.heap) (hS : va_S A s.heap H locs) (hsize : ls.size = c.maxLocals)
    (d0 : decode cc pc = .ok (.new ik, 3)) (d3 : decode cc (pc + 3) = .ok (.dup, 1)) (d4 : decode cc (pc + 4) = .ok (.ldc is, 2)) (d6 : decode cc (pc + 6) = .ok (.invokespecial ic, 3)) (d9 : decode cc (pc + 9) = .ok (.athrow, 1))
    (hout : ∀ x ∈ c.exceptionTable.toList, covers x (pc + 9) = false)
    (hRframes : names.length + 3 < R.frames) (hRlocals : (rest.map fun v => v.category).sum + (13 * (names.length + 1) + 43) ≤ R.locals) (hRcells : cells + 1 ≤ R.cells) (hRslots : slots + 6 ≤ R.slots) (hlocks : meth.locks = false)
    (hx : ∀ (t : State) (ce : Cell), s.WarmedH t.vm → t.heap.size = H.size + 1 → (∀ q : Nat, q < H.size → t.heap[q]? = H[q]?) → t.heap[H.size]? = some ce → ce.vm = .none → s.vm.findClass cls = some ce.cls → Qc args s (.threw H.size) t)
    (hf : ∀ z ∈ locs, free z.base) (hc : cells + 1 ≤ mc) (hs : slots + 6 ≤ ms) :
    W p l e R s m args below meth c H locs cells slots (xb_MQ below Qc args s mc ms free) (F0 m pc ls rest) := by
  intro T hT X
  have htr : e.platform.stackTraces = false := (show e.platform.stackTraces = l.stackTraces by rw [X.admits.platform]).trans hl
  have Y := vx_rebase X (R' := { frames := R.frames, locals := R.locals, cells := 1, slots := 6 }) (Nat.le_refl _) (Nat.le_refl _) hRcells hRslots
  obtain ⟨s', hA⟩ : ∃ z, z = (T.setVm s.vm).setFrames (.invoking m args :: below) := ⟨_, rfl⟩
  rw [← hA] at Y
  have hvm : s'.vm = s.vm := by rw [hA]; rfl
  have hhp : s'.heap = H := by rw [hA]; exact hT
  have hW0 : s.WarmedH s'.vm := by rw [hvm]; exact State.WarmedH.refl s
  have hat' : ∀ w ∈ vx_atS own ic cls names, w.before args s' = true := fun w hw => vx_ot_at hW0 hvm.symm (hgood w (List.mem_cons_of_mem _ (List.mem_cons_of_mem _ hw))) (hat w hw)
  have hk' : (Cond.classLink own ik cls).before args s' = true := vx_ot_at hW0 hvm.symm (hgood _ List.mem_cons_self) hk
  have hini' : (Cond.initialized cls).before args s' = true := vx_ot_at hW0 hvm.symm (hgood _ (List.mem_cons_of_mem _ List.mem_cons_self)) hini
  have hU' : vx_Zq Bundle.tN "UNASSIGNED_STACK" Bundle.steD A s' s'.heap := by rw [hhp]; exact vx_Zq.moved hW0.alike (hU.kept hS.2.1)
  have hN' : vx_Zq Bundle.tN "SUPPRESSED_SENTINEL" Bundle.listD A s' s'.heap := by rw [hhp]; exact vx_Zq.moved hW0.alike (hN.kept hS.2.1)
  have h : ∀ w ∈ Bundle.ownAtoms own ic cls names, w.before args s' = true := vx_own hat' (vx_isRefq hU'.1) (vx_isRefq hN'.1) hU'.2.word hN'.2.word
  have hown' : s'.vm.findClass own = some m.cls := by rw [hvm]; exact hown
  have hins : (Cond.instantiable cls 6).before args s' = true := h _ (by simp [Bundle.ownAtoms])
  obtain ⟨vm₁, cX, kX, hfX, hkX, -, -, X₁, st1⟩ := Y.newCold hexec (own := own) (C := cls) (index := ik) (n := 6) hown' hk' hins hini'
    (g := F0 m pc ls rest) rfl (by rw [hb]; exact d0) (Nat.le_refl _) (Nat.le_refl _)
  generalize hT1 : (T.setVm vm₁).pushCell { cls := cX, slots := kX.instanceTypes.map defaultValue, vm := .none } = T1 at X₁ st1
  have hcat : (Value.ref T.heap.size).category = 1 := rfl
  have hcellA : T1.heap[T.heap.size]? = some (freshCell cX kX) := by rw [← hT1]; exact State.heap_pushCell_size _ _
  have d3' : decode c.code (pc + 3) = .ok (.dup, 1) := by rw [hb]; exact d3
  have d4' : decode c.code (pc + 4) = .ok (.ldc is, 2) := by rw [hb]; exact d4
  have hstr' : vk_R own is text sa s' := vk_R.warm hW0 hstr
  obtain ⟨U, hsteps, hrun, hend, hW, hsame, ce, hce, hO⟩ := X₁.ctorThrowS hexec htr (own := own) (cls := cls) (names := names) (ic := ic) hown' hcls hnames h (fun x hx => nomatch hx) hfX hkX hcellA (by rw [hhp, hT]; exact Nat.le_refl _) (msg := .ref sa) rfl
    (g := { method := m, pc := pc + 6, locals := ls, stack := .ref sa :: .ref T.heap.size :: .ref T.heap.size :: rest, locked := none }) rfl hsize rfl rfl (rest := rest) rfl
    (by rw [hb]; exact d6) (by rw [hb]; exact d9) hout hRframes (by simp only [List.map_cons, List.sum_cons, hcat]; omega) hlocks
  obtain ⟨f1, f2⟩ := vx_frame hsame
  rw [hhp] at f1 f2
  have hWs : s.WarmedH U.vm := State.WarmedH.trans hW0 hW
  have hcl : s.vm.findClass cls = some ce.cls := by
    have h9 := hO.cls
    rw [hvm] at h9
    exact h9
  have hall : s.sameButNew ({ U with vm := s.vm } : State) locs mc ms := by
    subst hA
    obtain ⟨e1, e2⟩ := hsame
    rw [State.setFrames_setFrames] at e1
    have h2 : (T.setVm s.vm).sameButNew ({ U with vm := s.vm } : State) [] (0 + 1) (0 + 6) := ⟨e1, e2⟩
    have h3 := X.same.trans h2
    rw [List.append_nil] at h3
    exact h3.mono hc hs
  have hsz : U.heap.size = H.size + 1 := by
    have z1 : U.heap.size ≤ s'.heap.size + (0 + 1) := hsame.2.2.1
    have z2 : T.heap.size < U.heap.size := (Array.getElem?_eq_some_iff.mp hce).1
    rw [hhp] at z1
    rw [hT] at z2
    omega
  have hq9 := hx U ce hWs hsz (fun q hq => f2 q hq (fun z hz => nomatch hz)) (by rw [← hT]; exact hce) hO.vm hcl
  rw [← hT] at hq9
  refine ⟨U, ?_, .threw T.heap.size, hrun, hend, hq9, hWs, locs, hall, hf⟩
  refine st1 _ ?_
  show Steps p.tables e below (T1.setTop { method := m, pc := pc + 3, locals := ls, stack := .ref T.heap.size :: rest, locked := none }) _
  jvm_step X₁.here [X₁.here.top, hexec, d3', Value.category]
  exact X₁.ldcString hexec (own := own) (text := text) (index := is) (a := sa) hown' hstr'.1 hstr'.2
    (g := { method := m, pc := pc + 4, locals := ls, stack := .ref T.heap.size :: .ref T.heap.size :: rest, locked := none }) rfl d4' _ hsteps

def exNs : List String := ["java/lang/RuntimeException", "java/lang/Exception"]
/-- the words of a throw new E("text") -/
def TW (M : Mi) (ik is ic e9 sn : Nat) (text : String) : Prop := Cond.classLink M.1 ik (exN e9) ∈ gW ∧ Cond.initialized (exN e9) ∈ gW ∧ (∀ w ∈ (vx_atS M.1 ic (exN e9) exNs).filter goodWord, w ∈ gW) ∧ (∀ w ∈ (vx_atS M.1 ic (exN e9) exNs).filter (fun w => !goodWord w), w ∈ Cond.castable (exN e9) (exN e9) :: dWx) ∧
  (∀ w ∈ Cond.classLink M.1 ik (exN e9) :: Cond.initialized (exN e9) :: vx_atS M.1 ic (exN e9) exNs, vx_ot w = true) ∧ Bundle.fit (exN e9) = true ∧ (∀ n ∈ exNs, Bundle.fit n = true) ∧ (M.1, is, text, sn) ∈ strL ∧ (exN e9, exN e9) ∈ cWl
theorem xs_cast.word {E N : String} {U : State} (h : xs_cast E N U) (A : Array Value) : (Cond.castable E N).before A U = true := by
  obtain ⟨a, b, h1, h2, h3⟩ := h
  simp [Cond.before, Cond.holds, Cond.value, h1, h2, h3]
theorem gd_throwS {C : Cx} {M : Mi} {h0 h : Hp} {fr lo ik is ic e9 sn : Nat} {text : String} {pc : Nat} {lv : List (Nat × Value)} {st : List Value} {f : Nat → Value} (hT : TW M ik is ic e9 sn text) (hh : ∀ q ∈ M.2.2.2.2.2, ¬ (q.1 ≤ pc + 9 ∧ pc + 9 < q.2.1)) (hfr : 6 ≤ fr) (hlo : 100 ≤ lo) (hW : (st.map fun v => v.category).sum ≤ 8)
    (d0 : decode M.2.2.1 pc = .ok (.new ik, 3)) (d3 : decode M.2.2.1 (pc + 3) = .ok (.dup, 1)) (d4 : decode M.2.2.1 (pc + 4) = .ok (.ldc is, 2)) (d6 : decode M.2.2.1 (pc + 6) = .ok (.invokespecial ic, 3)) (d9 : decode M.2.2.1 (pc + 9) = .ok (.athrow, 1)) :
    Gd C M fr lo h0 (.inr (200 + e9, 0)) (hNew h 0 0 6 f) pc lv st h := by
  intro p e s m args below meth c H locs ls hc hR0 hR hn hu hq hl
  obtain ⟨t1, t2, t3, t4, t5, t6, t7, t8, t9⟩ := hT
  have hSF := hc.2.2.2.2.2.2.2.2
  have hts : ∀ w ∈ gW, w.before args s = true := fun w hw => hSF.1 w hw args
  have hold : ∀ q, q < cB C → s.heap[q]? = (cH C)[q]? := hR0.2.2.1
  have hkp : ∀ a : Nat, a < (cH C).size → ¬ cB C ≤ a → s.heap[a]? = (cH C)[a]? := fun a _ ha => hold a (Nat.not_le.mp ha)
  have e1 : hN (hNew h 0 0 6 f) - hN h0 = hN h - hN h0 + 1 := by show hN h + 1 - hN h0 = _; omega
  have e2 : hU (hNew h 0 0 6 f) - hU h0 = hU h - hU h0 + 6 := by show hU h + 6 - hU h0 = _; omega
  refine xb_throwS (A := fun q => cB C ≤ q) (names := exNs) hc.1 hc.2.1 hSF.2.2.2.2.2.1.1 hc.2.2.2.2.2.2.1 t6 t7 (hts _ t1) (hts _ t2) (hSF.2.2.2.2.2.2.1 _ t8)
    (vx_hat (fun w hw => hts w (t3 w hw)) t4 (fun w hw => by
      rcases List.mem_cons.mp hw with rfl | hw
      · exact (hSF.2.2.2.1 _ t9).word args
      · have h9 := hSF.2.2.2.2.2.2.2.2.1 w hw
        simp only [dWx, List.mem_cons, List.not_mem_nil, or_false] at hw
        rcases hw with rfl | rfl | rfl <;> exact va_Nw.use rfl h9)) t5
    (hSF.2.2.2.2.2.1.2.1.kept hkp) (hSF.2.2.2.2.2.1.2.2.kept hkp) ⟨by rw [hR0.1, hR.1]; exact hn, fun q h1 h2 => by rw [hold q (Nat.not_le.mp h2)]; exact hR.2.2.1 q (Nat.not_le.mp h2), hq⟩ (hl.1.trans hc.2.2.1.symm)
    d0 d3 d4 d6 d9 (fun x hx => ?_) (by show 2 + 3 < fr; omega) (by show _ + (13 * (2 + 1) + 43) ≤ lo; omega) (by show hN h - hN h0 + 1 ≤ hN (hNew h 0 0 6 f) - hN h0; omega) (by show hU h - hU h0 + 6 ≤ hU (hNew h 0 0 6 f) - hU h0; omega) hc.2.2.2.2.1 ?_ hq (by omega) (by omega)
  · have h1 := hh (xb_hh x) (by rw [← hc.2.2.2.2.2.1]; exact List.mem_map_of_mem hx)
    simp only [covers, xb_hh] at h1 ⊢
    by_cases e1 : x.startPc ≤ pc + 9
    · by_cases e2 : pc + 9 < x.endPc
      · exact absurd ⟨e1, e2⟩ h1
      · simp [e2]
    · simp [e1]
  · intro t ce hW hsz hk hce hv hcl
    refine ⟨⟨by rw [hsz, hR.1]; rfl, Nat.le_succ_of_le hR.2.1, fun q hlt => ?_, fun b hb => ?_⟩, H.size, rfl, Or.inr ⟨by omega, ce, hce, hv, by rw [Nat.add_sub_cancel_left]; exact hcl⟩⟩
    · rw [hk q (by rw [hR.1]; exact Nat.lt_of_lt_of_le hlt hR.2.1)]; exact hR.2.2.1 q hlt
    · by_cases e : b = hN h
      · exact absurd (by simp [hNew, hK, e]) hb
      · have hb' : hK h b ≠ 0 := by simpa [hNew, hK, e] using hb
        obtain ⟨q1, q2, q3⟩ := hR.2.2.2 b hb'
        refine ⟨q1, Nat.lt_succ_of_lt q2, ?_⟩
        have e1 := q3.kept (H1 := t.heap) (hk b (by rw [hR.1]; exact q2))
        have e2 : hV (hNew h 0 0 6 f) b = hV h b := by funext j; simp [hNew, hV, e]
        have e3 : hK (hNew h 0 0 6 f) b = hK h b := by simp [hNew, hK, e]
        have e4 : hL (hNew h 0 0 6 f) b = hL h b := by simp [hNew, hL, e]
        refine ⟨fun z => ?_, fun z1 z2 => ?_⟩
        · rw [e2, e3]; rw [e3] at z; exact e1.1 z
        · rw [e2, e3, e4]; rw [e3] at z1 z2; exact e1.2 z1 z2
end
section
/-! THE TYPED HEAP, AND THE WEAKEST PRECONDITION OF A CODE TABLE AS A PROPOSITION -/
abbrev SV : Type := Int32 ⊕ Int64 ⊕ Option Nat
def vv : SV → Value
  | .inl x => .int x
  | .inr (.inl y) => .long y
  | .inr (.inr r) => va_rf r
/-- size, slots, kinds, lengths, ints, longs, references -/
abbrev Ht : Type := Nat × Nat × (Nat → Nat) × (Nat → Nat) × (Nat → Nat → Int32) × (Nat → Nat → Int64) × (Nat → Nat → Option Nat)
def tN (t : Ht) : Nat := t.1
def tU (t : Ht) : Nat := t.2.1
def tK (t : Ht) : Nat → Nat := t.2.2.1
def tL (t : Ht) : Nat → Nat := t.2.2.2.1
def tI (t : Ht) : Nat → Nat → Int32 := t.2.2.2.2.1
def tJ (t : Ht) : Nat → Nat → Int64 := t.2.2.2.2.2.1
def tR (t : Ht) : Nat → Nat → Option Nat := t.2.2.2.2.2.2
abbrev tyCl : List (Nat → FieldType) := [tyJx4a65c, tyX0, tyX1, tyX2, tyX3, tyX4, tyX5, tyX6, tyX7, tyX8, tyX9, tyX10, tyX11, tyX12, tyX13, tyX14, tyX15]
def fTy (ci k : Nat) : FieldType := (tyCl.getD ci (fun _ => .int)) k
/-- 0: an int (or smaller), 1: a long, 2: a reference -/
def tyN : FieldType → Nat
  | .long => 1
  | .object _ => 2
  | .array _ => 2
  | _ => 0
def slN (kd k : Nat) : Nat := if kd < 100 then tyN (fTy (kd - 1) k) else if kd < 102 then 0 else if kd = 102 then 1 else 2
def tV (t : Ht) (a k : Nat) : Value := match slN (tK t a) k with
  | 0 => .int (tI t a k)
  | 1 => .long (tJ t a k)
  | _ => va_rf (tR t a k)
def tv (t : Ht) : Hp := (tN t, tU t, tK t, tL t, tV t)
def up2 {α : Type} (f : Nat → Nat → α) (a k : Nat) (x : α) : Nat → Nat → α := fun b j => if b = a ∧ j = k then x else f b j
def sI (t : Ht) (a k : Nat) (x : Int32) : Ht := (tN t, tU t, tK t, tL t, up2 (tI t) a k x, tJ t, tR t)
def sJ (t : Ht) (a k : Nat) (x : Int64) : Ht := (tN t, tU t, tK t, tL t, tI t, up2 (tJ t) a k x, tR t)
def sR (t : Ht) (a k : Nat) (x : Option Nat) : Ht := (tN t, tU t, tK t, tL t, tI t, tJ t, up2 (tR t) a k x)
def up1 {α : Type} (f : Nat → α) (a : Nat) (x : α) : Nat → α := fun b => if b = a then x else f b
/-- a new cell: all 0 and null -/
def tNew (t : Ht) (kd len used : Nat) : Ht := (tN t + 1, tU t + used, up1 (tK t) (tN t) kd, up1 (tL t) (tN t) len, up1 (tI t) (tN t) (fun _ => 0), up1 (tJ t) (tN t) (fun _ => 0), up1 (tR t) (tN t) (fun _ => none))
theorem hSet_tv {t t' : Ht} {a k : Nat} {v : Value} (h1 : tN t' = tN t) (h2 : tU t' = tU t) (h3 : tK t' = tK t) (h4 : tL t' = tL t) (h5 : ∀ b j, tV t' b j = if b = a ∧ j = k then v else tV t b j) : hSet (tv t) a k v = tv t' := by
  unfold hSet tv hN hU hK hL hV
  rw [h1, h2, h3, h4]
  congr 4
  funext b j
  exact (h5 b j).symm
theorem hSet_sI {t : Ht} {a k : Nat} {x : Int32} (h : slN (tK t a) k = 0) : hSet (tv t) a k (.int x) = tv (sI t a k x) := by
  refine hSet_tv rfl rfl rfl rfl (fun b j => ?_)
  by_cases e : b = a ∧ j = k
  · rw [if_pos e, e.1, e.2]; simp [tV, sI, tK, tI, up2] at h ⊢; rw [h]; rfl
  · rw [if_neg e]; unfold tV; simp only [sI, tK, tI, tJ, tR, up2, if_neg e]
theorem hSet_sJ {t : Ht} {a k : Nat} {x : Int64} (h : slN (tK t a) k = 1) : hSet (tv t) a k (.long x) = tv (sJ t a k x) := by
  refine hSet_tv rfl rfl rfl rfl (fun b j => ?_)
  by_cases e : b = a ∧ j = k
  · rw [if_pos e, e.1, e.2]; simp [tV, sJ, tK, tJ, up2] at h ⊢; rw [h]; rfl
  · rw [if_neg e]; unfold tV; simp only [sJ, tK, tI, tJ, tR, up2, if_neg e]
theorem slN_le (kd k : Nat) : slN kd k = 0 ∨ slN kd k = 1 ∨ slN kd k = 2 := by
  unfold slN
  split
  · cases fTy (kd - 1) k <;> simp [tyN]
  · split
    · simp
    · split <;> simp
theorem hSet_sR {t : Ht} {a k : Nat} {x : Option Nat} (h : slN (tK t a) k = 2) : hSet (tv t) a k (va_rf x) = tv (sR t a k x) := by
  refine hSet_tv rfl rfl rfl rfl (fun b j => ?_)
  by_cases e : b = a ∧ j = k
  · rw [if_pos e, e.1, e.2]; simp [tV, sR, tK, tR, up2] at h ⊢; rw [h]; rfl
  · rw [if_neg e]; unfold tV; simp only [sR, tK, tI, tJ, tR, up2, if_neg e]
def dV (n : Nat) : Value := match n with
  | 0 => .int 0
  | 1 => .long 0
  | _ => .null
theorem hNew_tv {t : Ht} {kd len used : Nat} {f : Nat → Value} (hf : ∀ k, f k = dV (slN kd k)) : hNew (tv t) kd len used f = tv (tNew t kd len used) := by
  unfold hNew tv hN hU hK hL hV
  congr 4
  funext b j
  by_cases e : b = tN t
  · subst e
    simp [tV, tNew, tK, tI, tJ, tR, up1, tN, hf j, va_rf, dV]
  · simp only [tN] at e
    simp [tV, tNew, tK, tI, tJ, tR, up1, tN, e]
/-! what the code table of a method is read with -/
abbrev OutT : Type := Option SV ⊕ (Nat × Nat)
def oo : OutT → Out
  | .inl v => .inl (v.map vv)
  | .inr x => .inr x
/-- pools: fields (class, number, 1: this class's own), methods, classes (kind), ints, longs, strings, statics -/
abbrev Pool : Type := List (Nat × Nat × Nat × Nat) × List (Nat × Nat) × List (Nat × Nat) × List (Nat × Int32) × List (Nat × Int64) × List (Nat × Nat) × List (Nat × Nat)
abbrev LV : Type := List (Nat × SV)
def lset1 (lv : LV) (i : Nat) (v : SV) : LV := (i, v) :: lv.filter (fun q => !(q.1 == i) && !(q.1 + 1 == i && (vv q.2).category == 2))
def lset2 (lv : LV) (i : Nat) (v : SV) : LV := (i, v) :: lv.filter (fun q => !(q.1 == i) && (!(q.1 == i + 1) && !(q.1 + 1 == i && (vv q.2).category == 2)))
def ldrop (lv : LV) (i : Nat) : LV := lv.filter (fun q => !(q.1 == i) && !(q.1 + 1 == i && (vv q.2).category == 2))
def onR (r : Option Nat) (f : Nat → Prop) : Prop := match r with
  | some a => f a
  | none => False
def nuR (r : Option Nat) (A : Prop) (B : Nat → Prop) : Prop := match r with
  | none => A
  | some a => B a
def svC : SV → Nat
  | .inr (.inl _) => 2
  | _ => 1
def br (c A B : Prop) : Prop := (c → A) ∧ (¬ c → B)
def tgt (pc : Nat) (off : Int) : Nat := ((pc : Int) + off).toNat

def popI (st : List SV) (f : Int32 → List SV → Prop) : Prop := match st with
  | .inl x :: r => f x r
  | _ => False
def popJ (st : List SV) (f : Int64 → List SV → Prop) : Prop := match st with
  | .inr (.inl x) :: r => f x r
  | _ => False
def popR (st : List SV) (f : Option Nat → List SV → Prop) : Prop := match st with
  | .inr (.inr x) :: r => f x r
  | _ => False
def popN : Nat → List SV → (List SV → List SV → Prop) → Prop
  | 0, st, f => f [] st
  | n + 1, st, f => match st with
    | v :: r => popN n r (fun as r' => f (as ++ [v]) r')
    | [] => False
def svI (x : Int32) : SV := .inl x
def svJ (x : Int64) : SV := .inr (.inl x)
def svR (r : Option Nat) : SV := .inr (.inr r)
/-- what an int field or an int answer of a type takes -/
def okI (ty : FieldType) (x : Int32) : Prop := match ty with
  | .int => True
  | .boolean => x = 0 ∨ x = 1
  | _ => False
def okJ (ty : FieldType) (x : Int32) (P : Prop) : Prop := match ty with
  | .int => P
  | .boolean => (x = 0 ∨ x = 1) ∧ P
  | _ => False
def isFin (ci k : Nat) : Bool := ((vwCl.getD ci ("", fun _ => ("", "", "", false), 0)).2.1 k).2.2.2
def rdS (t : Ht) (a k n : Nat) : SV := match n with
  | 0 => svI (tI t a k)
  | 1 => svJ (tJ t a k)
  | _ => svR (tR t a k)
abbrev nSl : List Nat := [3, 5, 11, 2, 3, 4, 7, 2, 2, 8, 9, 3, 10, 12, 14, 8, 37]
def aKd (a : ArrayType) : Nat := match a with
  | .byte => 0
  | .int => 1
  | .long => 2
  | _ => 99
def aKo (kd : Nat) : Nat := if kd = 3 then 4 else if kd = 8 then 5 else if kd = 300 then 3 else 99
def okA (ka kb : Nat) : Prop := (ka = 104 ∧ kb = 3) ∨ (ka = 105 ∧ kb = 8) ∨ (ka = 103 ∧ (kb = 3 ∨ kb = 9 ∨ kb = 10 ∨ kb = 11))
def gd (b : Bool) (P : Prop) : Prop := match b with
  | true => P
  | false => False
def wgt (st : List SV) : Nat := (st.map svC).sum
def sw (x : Int32) (J : Int → Prop) (D : Prop) : List (Int × Int) → Prop
  | [] => D
  | (k, o) :: r => br (x = Int32.ofInt k) (J o) (sw x J D r)
def swL (lo : Int) : List Int → List (Int × Int)
  | [] => []
  | o :: r => (lo, o) :: swL (lo + 1) r
abbrev Code1 : Type := List (Nat × Instr × Nat)
/-- the method: its code table, its pool, what it returns, whether it is a constructor, its handler (from, to, at, kind) -/
abbrev MT : Type := Code1 × Pool × Option FieldType × Bool × List (Nat × Nat × Nat × Nat)
def rI (v : Option SV) (f : Int32 → Prop) : Prop := match v with
  | some (.inl x) => f x
  | _ => False
def rJ (v : Option SV) (f : Int64 → Prop) : Prop := match v with
  | some (.inr (.inl x)) => f x
  | _ => False
def rR (v : Option SV) (f : Option Nat → Prop) : Prop := match v with
  | some (.inr (.inr x)) => f x
  | _ => False
/-- what comes back: nothing, an int, a long, a reference -/
def retK (rk : Nat) (v : Option SV) (f : List SV → Prop) : Prop := match rk with
  | 0 => v = none ∧ f []
  | 1 => rI v (fun x => f [svI x])
  | 2 => rJ v (fun x => f [svJ x])
  | _ => rR v (fun x => f [svR x])
def aftV (f : Option SV → Ht → Prop) (g : Nat → Nat → Ht → Prop) (o : OutT) (t : Ht) : Prop := match o with
  | .inl v => f v t
  | .inr x => g x.1 x.2 t
section WP
variable (Cal : Nat → List SV → Ht → (OutT → Ht → Prop) → Prop) (mt : List (Nat × Nat × Nat)) (sA : Nat → Nat) (gV : Nat → Option Nat) (sc : Option (Nat × Nat × (Nat → Int32))) (X : MT) (Q : OutT → Ht → Prop) (K : Nat → LV → List SV → Ht → Prop)
def exc (pc : Nat) (lv : LV) (t : Ht) (kd a : Nat) : Prop := match X.2.2.2.2 with
  | [] => Q (.inr (kd, a)) t
  | (s, e, hpc, kd') :: _ => if s ≤ pc ∧ pc < e then
      kd = kd' ∧ (if kd' = 16 then K hpc lv [svR (some a)] t else match X.1.lookup hpc with
        | some (.astore_n k, _) => K (hpc + 1) (ldrop lv k.val) [] t
        | some (.astore k, _) => K (hpc + 2) (ldrop lv k) [] t
        | _ => False)
    else Q (.inr (kd, a)) t
def aft (rk pc : Nat) (lv : LV) (st : List SV) : OutT → Ht → Prop := aftV (fun v t => retK rk v (fun l => K (pc + 3) lv (l ++ st) t)) (fun kd a t => exc X Q K pc lv t kd a)
def ifI (c : ClassFile.Cond) (x y : Int32) (A B : Prop) : Prop := match c with
  | .eq => br (x = y) A B
  | .ne => br (x = y) B A
  | .lt => br (x < y) A B
  | .ge => br (y ≤ x) A B
  | .gt => br (y < x) A B
  | .le => br (x ≤ y) A B
def st1 (i : Instr) (len pc : Nat) (lv : LV) (st : List SV) (t : Ht) : Prop := match i with
  | .aconst_null => K (pc + 1) lv (svR none :: st) t
  | .iconst n => K (pc + 1) lv (svI (Int32.ofInt n) :: st) t
  | .bipush n => K (pc + 2) lv (svI (Int8.ofInt n).toInt32 :: st) t
  | .sipush n => K (pc + 3) lv (svI (Int16.ofInt n).toInt32 :: st) t
  | .lconst n => K (pc + 1) lv (svJ (Int64.ofNat n) :: st) t
  | .ldc idx => match X.2.1.2.2.2.1.lookup idx with
    | some v => K (pc + 2) lv (svI v :: st) t
    | none => match X.2.1.2.2.2.2.2.1.lookup idx with
      | some n => K (pc + 2) lv (svR (some (sA n)) :: st) t
      | none => False
  | .ldc_w idx => match X.2.1.2.2.2.1.lookup idx with
    | some v => K (pc + 3) lv (svI v :: st) t
    | none => False
  | .ldc2_w idx => match X.2.1.2.2.2.2.1.lookup idx with
    | some v => K (pc + 3) lv (svJ v :: st) t
    | none => False
  | .iload k => match lv.lookup k with
    | some (.inl x) => K (pc + 2) lv (svI x :: st) t
    | _ => False
  | .iload_n k => match lv.lookup k.val with
    | some (.inl x) => K (pc + 1) lv (svI x :: st) t
    | _ => False
  | .lload k => match lv.lookup k with
    | some (.inr (.inl x)) => K (pc + 2) lv (svJ x :: st) t
    | _ => False
  | .lload_n k => match lv.lookup k.val with
    | some (.inr (.inl x)) => K (pc + 1) lv (svJ x :: st) t
    | _ => False
  | .aload k => match lv.lookup k with
    | some (.inr (.inr x)) => K (pc + 2) lv (svR x :: st) t
    | _ => False
  | .aload_n k => match lv.lookup k.val with
    | some (.inr (.inr x)) => K (pc + 1) lv (svR x :: st) t
    | _ => False
  | .istore k => popI st fun x st => K (pc + 2) (lset1 lv k (svI x)) st t
  | .istore_n k => popI st fun x st => K (pc + 1) (lset1 lv k.val (svI x)) st t
  | .lstore k => popJ st fun x st => K (pc + 2) (lset2 lv k (svJ x)) st t
  | .lstore_n k => popJ st fun x st => K (pc + 1) (lset2 lv k.val (svJ x)) st t
  | .astore k => popR st fun x st => K (pc + 2) (lset1 lv k (svR x)) st t
  | .astore_n k => popR st fun x st => K (pc + 1) (lset1 lv k.val (svR x)) st t
  | .iinc k n => match lv.lookup k with
    | some (.inl x) => K (pc + 3) (lset1 lv k (svI (x + Int32.ofInt n))) st t
    | _ => False
  | .pop => match st with
    | v :: r => gd (svC v == 1) (K (pc + 1) lv r t)
    | [] => False
  | .dup => match st with
    | v :: r => gd (svC v == 1) (K (pc + 1) lv (v :: v :: r) t)
    | [] => False
  | .dup2 => match st with
    | .inr (.inl y) :: r => K (pc + 1) lv (svJ y :: svJ y :: r) t
    | v :: w :: r => gd (svC v == 1 && svC w == 1) (K (pc + 1) lv (v :: w :: v :: w :: r) t)
    | _ => False
  | .iadd => popI st fun y st => popI st fun x st => K (pc + 1) lv (svI (x + y) :: st) t
  | .isub => popI st fun y st => popI st fun x st => K (pc + 1) lv (svI (x - y) :: st) t
  | .imul => popI st fun y st => popI st fun x st => K (pc + 1) lv (svI (x * y) :: st) t
  | .iand => popI st fun y st => popI st fun x st => K (pc + 1) lv (svI (x &&& y) :: st) t
  | .ior => popI st fun y st => popI st fun x st => K (pc + 1) lv (svI (x ||| y) :: st) t
  | .ixor => popI st fun y st => popI st fun x st => K (pc + 1) lv (svI (x ^^^ y) :: st) t
  | .ishl => popI st fun y st => popI st fun x st => K (pc + 1) lv (svI (x <<< (y &&& 31)) :: st) t
  | .ishr => popI st fun y st => popI st fun x st => K (pc + 1) lv (svI (x >>> (y &&& 31)) :: st) t
  | .idiv => popI st fun y st => popI st fun x st => ¬ y = 0 ∧ K (pc + 1) lv (svI (x / y) :: st) t
  | .irem => popI st fun y st => popI st fun x st => ¬ y = 0 ∧ K (pc + 1) lv (svI (x - x / y * y) :: st) t
  | .ladd => popJ st fun y st => popJ st fun x st => K (pc + 1) lv (svJ (x + y) :: st) t
  | .lsub => popJ st fun y st => popJ st fun x st => K (pc + 1) lv (svJ (x - y) :: st) t
  | .lmul => popJ st fun y st => popJ st fun x st => K (pc + 1) lv (svJ (x * y) :: st) t
  | .ldiv => popJ st fun y st => popJ st fun x st => ¬ y = 0 ∧ K (pc + 1) lv (svJ (x / y) :: st) t
  | .lrem => popJ st fun y st => popJ st fun x st => ¬ y = 0 ∧ K (pc + 1) lv (svJ (x - x / y * y) :: st) t
  | .lneg => popJ st fun x st => K (pc + 1) lv (svJ (-x) :: st) t
  | .lcmp => popJ st fun y st => popJ st fun x st => K (pc + 1) lv (svI (lg_cmp x y) :: st) t
  | .i2l => popI st fun x st => K (pc + 1) lv (svJ x.toInt64 :: st) t
  | .l2i => popJ st fun x st => K (pc + 1) lv (svI x.toInt32 :: st) t
  | .i2b => popI st fun x st => K (pc + 1) lv (svI x.toInt8.toInt32 :: st) t
  | .ifCond c off => popI st fun x st => ifI c x 0 (K (tgt pc off) lv st t) (K (pc + 3) lv st t)
  | .if_icmp c off => popI st fun y st => popI st fun x st => ifI c x y (K (tgt pc off) lv st t) (K (pc + 3) lv st t)
  | .ifnull off => popR st fun r st => nuR r (K (tgt pc off) lv st t) (fun _ => K (pc + 3) lv st t)
  | .ifnonnull off => popR st fun r st => nuR r (K (pc + 3) lv st t) (fun _ => K (tgt pc off) lv st t)
  | .goto off => K (tgt pc off) lv st t
  | .tableswitch d lo hi offs => popI st fun x st => sw x (fun o => K (tgt pc o) lv st t) (K (tgt pc d) lv st t) (swL lo offs.toList)
  | .lookupswitch d ps => popI st fun x st => sw x (fun o => K (tgt pc o) lv st t) (K (tgt pc d) lv st t) ps.toList
  | .getfield idx => popR st fun r st => onR r fun a => match X.2.1.1.lookup idx with
    | some (ci, k, _) => tK t a = ci + 1 ∧ K (pc + 3) lv (rdS t a k (tyN (fTy ci k)) :: st) t
    | none => False
  | .putfield idx => match st with
    | v :: st => popR st fun r st => onR r fun a => match X.2.1.1.lookup idx with
      | some (ci, k, w) => tK t a = ci + 1 ∧ gd (!isFin ci k || (w == 1 && X.2.2.2.1)) (match tyN (fTy ci k), v with
        | 0, .inl x => okJ (fTy ci k) x (K (pc + 3) lv st (sI t a k x))
        | 1, .inr (.inl x) => K (pc + 3) lv st (sJ t a k x)
        | 2, .inr (.inr x) => K (pc + 3) lv st (sR t a k x)
        | _, _ => False)
      | none => False
    | [] => False
  | .arraylength => match sc with
    | none => popR st fun r st => onR r fun a => 100 ≤ tK t a ∧ tK t a < 106 ∧ K (pc + 1) lv (svI (nI (tL t a)) :: st) t
    | some s9 => popR st fun r st => onR r fun a => a = s9.1 ∧ K (pc + 1) lv (svI (nI s9.2.1) :: st) t
  | .baload => popI st fun j st => popR st fun r st => onR r fun a => tK t a = 100 ∧ vp_in j (tL t a) ∧ K (pc + 1) lv (svI (tI t a j.toNatClampNeg) :: st) t
  | .iaload => match sc with
    | none => popI st fun j st => popR st fun r st => onR r fun a => tK t a = 101 ∧ vp_in j (tL t a) ∧ K (pc + 1) lv (svI (tI t a j.toNatClampNeg) :: st) t
    | some s9 => popI st fun j st => popR st fun r st => onR r fun a => a = s9.1 ∧ vp_in j s9.2.1 ∧ K (pc + 1) lv (svI (s9.2.2 j.toNatClampNeg) :: st) t
  | .laload => popI st fun j st => popR st fun r st => onR r fun a => tK t a = 102 ∧ vp_in j (tL t a) ∧ K (pc + 1) lv (svJ (tJ t a j.toNatClampNeg) :: st) t
  | .aaload => popI st fun j st => popR st fun r st => onR r fun a => 103 ≤ tK t a ∧ tK t a < 106 ∧ vp_in j (tL t a) ∧ K (pc + 1) lv (svR (tR t a j.toNatClampNeg) :: st) t
  | .bastore => popI st fun x st => popI st fun j st => popR st fun r st => onR r fun a => tK t a = 100 ∧ vp_in j (tL t a) ∧ K (pc + 1) lv st (sI t a j.toNatClampNeg x.toInt8.toInt32)
  | .iastore => popI st fun x st => popI st fun j st => popR st fun r st => onR r fun a => tK t a = 101 ∧ vp_in j (tL t a) ∧ K (pc + 1) lv st (sI t a j.toNatClampNeg x)
  | .lastore => popJ st fun x st => popI st fun j st => popR st fun r st => onR r fun a => tK t a = 102 ∧ vp_in j (tL t a) ∧ K (pc + 1) lv st (sJ t a j.toNatClampNeg x)
  | .newarray at_ => popI st fun n st => gd (decide (aKd at_ < 3)) (¬ n < 0 ∧ n.toNatClampNeg ≤ 60000000 ∧ K (pc + 2) lv (svR (some (tN t)) :: st) (tNew t (100 + aKd at_) n.toNatClampNeg n.toNatClampNeg))
  | .new idx => match X.2.1.2.2.1.lookup idx with
    | some kd => if kd < 100 then K (pc + 3) lv (svR (some (tN t)) :: st) (tNew t kd 0 (nSl.getD (kd - 1) 0)) else
      gd (decide (wgt st ≤ 8) && X.2.2.2.2.isEmpty) (match X.1.lookup (pc + 3), X.1.lookup (pc + 4), X.1.lookup (pc + 6), X.1.lookup (pc + 9) with
      | some (.dup, _), some (.ldc _, _), some (.invokespecial _, _), some (.athrow, _) => Q (.inr (kd, 0)) (tNew t 0 0 6)
      | _, _, _, _ => False)
    | none => False
  | .getstatic idx => match X.2.1.2.2.2.2.2.2.lookup idx with
    | some g => K (pc + 3) lv (svR (gV g) :: st) t
    | none => False
  | .anewarray idx => popI st fun n st => match X.2.1.2.2.1.lookup idx with
    | some kd => gd (decide (3 ≤ aKo kd) && decide (aKo kd < 6)) (¬ n < 0 ∧ n.toNatClampNeg ≤ 60000000 ∧ K (pc + 3) lv (svR (some (tN t)) :: st) (tNew t (100 + aKo kd) n.toNatClampNeg n.toNatClampNeg))
    | none => False
  | .aastore => popR st fun v st => popI st fun j st => popR st fun r st => onR r fun a => 103 ≤ tK t a ∧ tK t a < 106 ∧ vp_in j (tL t a) ∧ nuR v True (fun b => okA (tK t a) (tK t b)) ∧ K (pc + 1) lv st (sR t a j.toNatClampNeg v)
  | .checkcast idx => match X.2.1.2.2.1.lookup idx with
    | some kd => gd (kd == 3 || kd == 9 || kd == 10 || kd == 11) (popR st fun r st => nuR r (K (pc + 3) lv (svR none :: st) t) (fun a => tK t a = kd ∧ K (pc + 3) lv (svR (some a) :: st) t))
    | none => False
  | .invokevirtual idx => match X.2.1.2.1.lookup idx with
    | some j => match mt[j]? with
      | some (na, ci, rk) => popN na st fun as st => popR st fun r st => onR r fun b => gd (decide (ci < 99) && decide (wgt st ≤ 8)) (tK t b = ci + 1 ∧ Cal j (svR (some b) :: as) t (aft X Q K rk pc lv st))
      | none => False
    | none => False
  | .invokestatic idx => match X.2.1.2.1.lookup idx with
    | some j => match mt[j]? with
      | some (na, ci, rk) => popN na st fun as st => gd (ci == 1000 && decide (wgt st ≤ 8)) (Cal j as t (aft X Q K rk pc lv st))
      | none => False
    | none => False
  | .invokespecial idx => match X.2.1.2.1.lookup idx with
    | some j => if j = 9999 then popR st fun r st => onR r fun _ => gd (decide (wgt st ≤ 8)) (K (pc + 3) lv st t) else match mt[j]? with
      | some (na, ci, rk) => popN na st fun as st => popR st fun r st => onR r fun b => gd (ci == 2000 && decide (wgt st ≤ 8)) (Cal j (svR (some b) :: as) t (aft X Q K rk pc lv st))
      | none => False
    | none => False
  | .athrow => popR st fun r st => onR r fun a => tK t a = 16 ∧ exc X Q K pc lv t 16 a
  | .ireturn => popI st fun x r => gd r.isEmpty (match X.2.2.1 with
    | some ty => okJ ty x (Q (.inl (some (svI x))) t)
    | none => False)
  | .lreturn => popJ st fun x r => gd r.isEmpty (match X.2.2.1 with
    | some .long => Q (.inl (some (svJ x))) t
    | _ => False)
  | .areturn => popR st fun x r => gd r.isEmpty (match X.2.2.1 with
    | some (.object _) => Q (.inl (some (svR x))) t
    | some (.array _) => Q (.inl (some (svR x))) t
    | _ => False)
  | .return_ => gd st.isEmpty (match X.2.2.1 with
    | none => Q (.inl none) t
    | _ => False)
  | _ => False
end WP
/-- wp with cut points: n instructions at the most -/
def wpc (Cal : Nat → List SV → Ht → (OutT → Ht → Prop) → Prop) (mt : List (Nat × Nat × Nat)) (sA : Nat → Nat) (gV : Nat → Option Nat) (sc : Option (Nat × Nat × (Nat → Int32))) (X : MT) (Q : OutT → Ht → Prop) (cut : List Nat) (Kc : Nat → LV → List SV → Ht → Prop) : Nat → Nat → LV → List SV → Ht → Prop
  | 0, _, _, _, _ => False
  | n + 1, pc, lv, st, t => match X.1.lookup pc with
    | some (i, len) => st1 Cal mt sA gV sc X Q (fun pc' lv' st' t' => if pc' ∈ cut then Kc pc' lv' st' t' else wpc Cal mt sA gV sc X Q cut Kc n pc' lv' st' t') i len pc lv st t
    | none => False
end
section
/-! wp IS SOUND -/
abbrev ME : Type := MethodName × Cond × ByteArray × Nat × Option FieldType × List (Nat × Nat × Nat × Nat)
def frD (d : Nat) : Nat := d + 8
def loD (d : Nat) : Nat := 45 * d + 120
def CalG (C : Cx) (mtab : List ME) (d : Nat) (j : Nat) (as : List SV) (t : Ht) (Post : OutT → Ht → Prop) : Prop :=
  ∃ q : ME, mtab[j]? = some q ∧ ∃ (o : OutT) (t1 : Ht), Post o t1 ∧ tN t ≤ tN t1 ∧ tU t ≤ tU t1 ∧ CM C (frD d) (loD d) q.1 q.2.1 (as.map vv) (tv t) (oo o) (tv t1)
def fv (q : Nat × SV) : Nat × Value := (q.1, vv q.2)
def WG (C : Cx) (M : Mi) (d : Nat) (t0 : Ht) (Q : OutT → Ht → Prop) (pc : Nat) (lv : LV) (st : List SV) (t : Ht) : Prop :=
  ∃ (o : OutT) (t' : Ht), Q o t' ∧ tN t ≤ tN t' ∧ tU t ≤ tU t' ∧ Gd C M (frD d) (loD d) (tv t0) (oo o) (tv t') pc (lv.map fv) (st.map vv) (tv t)
def ilenOK (i : Instr) (len : Nat) : Bool := match i with
  | .tableswitch .. => true
  | .lookupswitch .. => true
  | .bipush _ => len == 2
  | .sipush _ => len == 3
  | .ldc _ => len == 2
  | .ldc_w _ => len == 3
  | .ldc2_w _ => len == 3
  | .iload _ => len == 2
  | .lload _ => len == 2
  | .aload _ => len == 2
  | .istore _ => len == 2
  | .lstore _ => len == 2
  | .astore _ => len == 2
  | .iinc _ _ => len == 3
  | .ifCond _ _ => len == 3
  | .if_icmp _ _ => len == 3
  | .ifnull _ => len == 3
  | .ifnonnull _ => len == 3
  | .goto _ => len == 3
  | .getfield _ => len == 3
  | .putfield _ => len == 3
  | .getstatic _ => len == 3
  | .new _ => len == 3
  | .newarray _ => len == 2
  | .anewarray _ => len == 3
  | .checkcast _ => len == 3
  | .invokevirtual _ => len == 3
  | .invokestatic _ => len == 3
  | .invokespecial _ => len == 3
  | _ => len == 1
def stoOK (i : Instr) (nL : Nat) : Bool := match i with
  | .istore k => k < nL
  | .lstore k => k + 1 < nL
  | .astore k => k < nL
  | .istore_n k => k.val < nL
  | .lstore_n k => k.val + 1 < nL
  | .astore_n k => k.val < nL
  | .iinc k _ => k < nL
  | _ => true
def tgtOK (pc : Nat) (i : Instr) : Bool := match i with
  | .ifCond _ off => 0 ≤ (pc : Int) + off
  | .if_icmp _ off => 0 ≤ (pc : Int) + off
  | .ifnull off => 0 ≤ (pc : Int) + off
  | .ifnonnull off => 0 ≤ (pc : Int) + off
  | .goto off => 0 ≤ (pc : Int) + off
  | .tableswitch d lo hi offs => 0 ≤ (pc : Int) + d && offs.toList.all (fun o => 0 ≤ (pc : Int) + o) && decide (hi = lo + offs.size - 1) && decide (-2147483648 ≤ lo) && decide (hi ≤ 2147483647)
  | .lookupswitch d ps => 0 ≤ (pc : Int) + d && ps.toList.all (fun o => 0 ≤ (pc : Int) + o.2) && ((ps.toList.zip (ps.toList.drop 1)).all (fun (a, next) => a.1 < next.1)) && ps.toList.all (fun o => decide (-2147483648 ≤ o.1) && decide (o.1 ≤ 2147483647))
  | _ => true
def EOK (q : ME) (na : Nat) : Prop := xb_Is q.1 q.2.1 q.2.2.1 q.2.2.2.1 q.2.2.2.2.1 q.2.2.2.2.2 ∧ (∀ (A : Array Value) (s : State), q.2.1.before A s = true → ∃ mk, s.methodNamed? q.1 = some mk) ∧ q.2.1 ∈ gW ∧ Cond.initialized q.1.cls ∈ gW ∧
  (q.1.cls ≠ "java/lang/invoke/MethodHandle" ∧ q.1.cls ≠ "java/lang/invoke/VarHandle") ∧ (∀ sig, parseMethodDescriptor q.1.desc = some sig → na = sig.parameters.length) ∧ q.2.2.2.1 ≤ 26
def kindOK (q : ME) (ci : Nat) : Prop :=
  (ci < 99 → Cond.instanceMethod q.1 ∈ gW ∧ ∃ r : vw_C, vwCl[ci]? = some r ∧ Cond.selects r.1 q.1 q.1 ∈ gW) ∧ (ci = 1000 → Cond.static q.1 ∈ gW) ∧ (ci = 2000 → Cond.instanceMethod q.1 ∈ gW ∧ q.1.name = "<init>" ∧ q.2.1 = .code q.1 q.2.2.1 q.2.2.2.1 none)
def noFl : FieldType → Bool
  | .float => false
  | .double => false
  | _ => true
def clOK (ci : Nat) (r : vw_C) : Prop := vwCl[ci]? = some r ∧ (∀ w ∈ u_ws r.1 r.2.1 r.2.2, w ∈ gW) ∧ (∀ k, k < r.2.2 → parseFieldDescriptor (r.2.1 k).2.2.1 = some (fTy ci k)) ∧ (∀ a, a < r.2.2 → ∀ b, b < r.2.2 → a ≠ b → (r.2.1 a).2.1 ≠ (r.2.1 b).2.1) ∧ (∀ k, k < r.2.2 → noFl (fTy ci k) = true)
/-- the pool of a class, and the methods of the table -/
def PoolOK (own : String) (P : Pool) (mtab : List ME) (mt : List (Nat × Nat × Nat)) : Prop :=
  (∀ idx ci k w, P.1.lookup idx = some (ci, k, w) → ci < 17 ∧ ∃ r : vw_C, clOK ci r ∧ k < r.2.2 ∧ (Cond.fieldLink own idx (r.2.1 k).1 (r.2.1 k).2.1 (r.2.1 k).2.2.1 ∈ gW ∨ ∃ host, Cond.fieldLinkNest own idx (r.2.1 k).1 (r.2.1 k).2.1 (r.2.1 k).2.2.1 host ∈ nW) ∧ (w = 1 → (r.2.1 k).1 = own ∧ Cond.fieldLink own idx (r.2.1 k).1 (r.2.1 k).2.1 (r.2.1 k).2.2.1 ∈ gW)) ∧
  (∀ idx j, P.2.1.lookup idx = some j → (j = 9999 ∧ mt[9999]? = none ∧ Cond.methodLink own idx Lib.objectInit ∈ gW ∧ Cond.instanceMethod Lib.objectInit ∈ gW ∧ Cond.code Lib.objectInit ⟨#[0xb1]⟩ 1 none ∈ gW) ∨ (j ≠ 9999 ∧ ∃ (q : ME) (na ci rk : Nat), mtab[j]? = some q ∧ mt[j]? = some (na, ci, rk) ∧ EOK q na ∧ kindOK q ci ∧ (Cond.methodLink own idx q.1 ∈ gW ∨ ∃ host, Cond.methodLinkNest own idx q.1 host ∈ nW))) ∧
  (∀ idx kd, P.2.2.1.lookup idx = some kd → (kd < 100 → 1 ≤ kd ∧ ∃ r : vw_C, clOK (kd - 1) r ∧ Cond.classLink own idx r.1 ∈ gW ∧ Cond.instantiable r.1 (nSl.getD (kd - 1) 0) ∈ gW ∧ Cond.initialized r.1 ∈ gW) ∧ (kd = 300 → Cond.classLink own idx "java/lang/Object" ∈ gW)) ∧
  (∀ idx v, P.2.2.2.1.lookup idx = some v → Cond.constant own idx v ∈ gW) ∧ (∀ idx v, P.2.2.2.2.1.lookup idx = some v → Cond.constantLong own idx v ∈ gW) ∧
  (∀ idx n, P.2.2.2.2.2.1.lookup idx = some n → ∃ tx, (own, idx, tx, n) ∈ strL) ∧ (∀ idx g, P.2.2.2.2.2.2.lookup idx = some g → ∃ c n dsc, (c, n, dsc, g) ∈ stL ∧ Cond.fieldLink own idx c n dsc ∈ gW)
/-- a method's code table is its code -/
def CodeOK (M : Mi) (X : MT) : Prop :=
  (∀ pc i len, X.1.lookup pc = some (i, len) → decode M.2.2.1 pc = .ok (i, len) ∧ ilenOK i len = true ∧ stoOK i M.2.2.2.1 = true ∧ tgtOK pc i = true) ∧ X.2.2.1 = M.2.2.2.2.1 ∧ (X.2.2.2.1 = true → M.2.1 = "<init>") ∧
  ((M.2.2.2.2.2 = [] ∧ X.2.2.2.2 = []) ∨ ∃ s e hpc ct kd, M.2.2.2.2.2 = [(s, e, hpc, ct)] ∧ X.2.2.2.2 = [(s, e, hpc, kd)] ∧ ct ≠ 0 ∧ ((kd = 16 ∧ Cond.classLink M.1 ct "PathHouseModel$Stop" ∈ gW) ∨ ∃ e9, e9 < 3 ∧ kd = 200 + e9 ∧ Cond.classLink M.1 ct (exN e9) ∈ gW)) ∧
  (∀ pc ik l0 kd is l4 ic l6, X.1.lookup pc = some (.new ik, l0) → X.2.1.2.2.1.lookup ik = some kd → ¬ kd < 100 → X.1.lookup (pc + 4) = some (.ldc is, l4) → X.1.lookup (pc + 6) = some (.invokespecial ic, l6) → ∃ e9 sn text, e9 < 3 ∧ kd = 200 + e9 ∧ TW M ik is ic e9 sn text)
section SO
theorem lk_mem {lv : LV} {k : Nat} {v : SV} (h : lv.lookup k = some v) : (k, v) ∈ lv := by
  induction lv with
  | nil => cases h
  | cons q r ih =>
    obtain ⟨a, b⟩ := q
    rw [List.lookup_cons] at h
    by_cases e : k = a
    · subst e
      simp at h
      rw [h]
      exact List.mem_cons_self
    · have e' : (k == a) = false := by simp [e]
      rw [e'] at h
      exact List.mem_cons_of_mem _ (ih h)
theorem lk_at {lv : LV} {k n : Nat} {v : SV} {ls : Array Slot} (h : lv.lookup k = some v) (hl : lv_has ls n (lv.map fv)) : ls[k]? = some (.val (vv v)) := hl.2.2 (k, vv v) (List.mem_map.mpr ⟨_, lk_mem h, rfl⟩)
theorem fmap_filter {lv : LV} {p : Nat × SV → Bool} {p' : Nat × Value → Bool} (h : ∀ q, p' (fv q) = p q) : (lv.map fv).filter p' = (lv.filter p).map fv := by
  rw [List.filter_map]
  congr 1
  exact List.filter_congr (fun q _ => h q)
theorem lset1_map {lv : LV} {i : Nat} {v : SV} : (i, vv v) :: (lv.map fv).filter (fun q => !(q.1 == i) && !(q.1 + 1 == i && q.2.category == 2)) = (lset1 lv i v).map fv := by
  rw [fmap_filter (p := fun q => !(q.1 == i) && !(q.1 + 1 == i && (vv q.2).category == 2)) (fun _ => rfl)]
  rfl
theorem lset2_map {lv : LV} {i : Nat} {v : SV} : (i, vv v) :: (lv.map fv).filter (fun q => !(q.1 == i) && (!(q.1 == i + 1) && !(q.1 + 1 == i && q.2.category == 2))) = (lset2 lv i v).map fv := by
  rw [fmap_filter (p := fun q => !(q.1 == i) && (!(q.1 == i + 1) && !(q.1 + 1 == i && (vv q.2).category == 2))) (fun _ => rfl)]
  rfl
theorem popI_of {st : List SV} {f : Int32 → List SV → Prop} (h : popI st f) : ∃ x r, st = svI x :: r ∧ f x r := by
  unfold popI at h
  split at h
  · exact ⟨_, _, rfl, h⟩
  · exact h.elim
theorem popJ_of {st : List SV} {f : Int64 → List SV → Prop} (h : popJ st f) : ∃ x r, st = svJ x :: r ∧ f x r := by
  unfold popJ at h
  split at h
  · exact ⟨_, _, rfl, h⟩
  · exact h.elim
theorem popR_of {st : List SV} {f : Option Nat → List SV → Prop} (h : popR st f) : ∃ x r, st = svR x :: r ∧ f x r := by
  unfold popR at h
  split at h
  · exact ⟨_, _, rfl, h⟩
  · exact h.elim
theorem onR_of {r : Option Nat} {f : Nat → Prop} (h : onR r f) : ∃ a, r = some a ∧ f a := by
  cases r with
  | none => exact h.elim
  | some a => exact ⟨a, rfl, h⟩
theorem popN_of : ∀ (n : Nat) {st : List SV} {f : List SV → List SV → Prop}, popN n st f → ∃ as r, as.length = n ∧ st = as.reverse ++ r ∧ f as r
  | 0, st, f, h => ⟨[], st, rfl, rfl, h⟩
  | n + 1, st, f, h => by
    unfold popN at h
    cases st with
    | nil => exact h.elim
    | cons v r =>
      obtain ⟨as, r', h1, h2, h3⟩ := popN_of n h
      exact ⟨as ++ [v], r', by simp [h1], by simp [h2], h3⟩
theorem wgt_cat (st : List SV) : ((st.map vv).map fun v => v.category).sum = wgt st := by
  unfold wgt
  rw [List.map_map]
  congr 1
  apply List.map_congr_left
  intro v _
  rcases v with x | x | x
  · rfl
  · rfl
  · cases x <;> rfl
theorem svC_cat {v : SV} (h : svC v = 1) : (vv v).category = 1 := by
  rcases v with x | x | x
  · rfl
  · cases h
  · cases x <;> rfl
theorem tgt_ok {pc : Nat} {off : Int} (h : 0 ≤ (pc : Int) + off) : (pc : Int) + off = (tgt pc off : Nat) := by
  unfold tgt
  omega
end SO
end
section
/-! one instruction -/
section S1
variable {C : Cx} {M : Mi} {X : MT} {mtab : List ME} {mt : List (Nat × Nat × Nat)} {d : Nat} {t0 t : Ht} {Q : OutT → Ht → Prop} {K : Nat → LV → List SV → Ht → Prop} {pc pc' len : Nat} {lv lv' : LV} {st st' : List SV}
theorem wg_step (f : ∀ {p : Program} {l : Launch} {e : Env} {R : Room} {s : State} {m : MethodId} {args : Array Value} {below : List Frame} {meth : Method} {c : Code} {H : Heap} {locs : List Loc} {cells slots : Nat} {Q : State → Prop} {ls : Array Slot}, p.tables.exec = Jvm.exec → c.code = M.2.2.1 → lv_has ls M.2.2.2.1 (lv.map fv) →
      W p l e R s m args below meth c H locs cells slots Q (F0 m pc' ls (st'.map vv)) → W p l e R s m args below meth c H locs cells slots Q (F0 m pc ls (st.map vv)))
    (k : WG C M d t0 Q pc' lv st' t) : WG C M d t0 Q pc lv st t := by
  obtain ⟨o, t', hq, h1, h2, g⟩ := k
  exact ⟨o, t', hq, h1, h2, gd_step f g⟩
theorem wg_stepL (f : ∀ {p : Program} {l : Launch} {e : Env} {R : Room} {s : State} {m : MethodId} {args : Array Value} {below : List Frame} {meth : Method} {c : Code} {H : Heap} {locs : List Loc} {cells slots : Nat} {Q : State → Prop} {ls : Array Slot}, p.tables.exec = Jvm.exec → c.code = M.2.2.1 → lv_has ls M.2.2.2.1 (lv.map fv) →
      (∀ ls : Array Slot, lv_has ls M.2.2.2.1 (lv'.map fv) → W p l e R s m args below meth c H locs cells slots Q (F0 m pc' ls (st'.map vv))) → W p l e R s m args below meth c H locs cells slots Q (F0 m pc ls (st.map vv)))
    (k : WG C M d t0 Q pc' lv' st' t) : WG C M d t0 Q pc lv st t := by
  obtain ⟨o, t', hq, h1, h2, g⟩ := k
  exact ⟨o, t', hq, h1, h2, gd_stepL f g⟩
theorem wg_stepC (f : ∀ {p : Program} {l : Launch} {e : Env} {R : Room} {s : State} {m : MethodId} {args : Array Value} {below : List Frame} {meth : Method} {c : Code} {H : Heap} {locs : List Loc} {cells slots : Nat} {Q : State → Prop} {ls : Array Slot}, p.tables.exec = Jvm.exec → c.code = M.2.2.1 → s.vm.findClass M.1 = some m.cls → (∀ w ∈ gW, w.before args s = true) →
      W p l e R s m args below meth c H locs cells slots Q (F0 m pc' ls (st'.map vv)) → W p l e R s m args below meth c H locs cells slots Q (F0 m pc ls (st.map vv)))
    (k : WG C M d t0 Q pc' lv st' t) : WG C M d t0 Q pc lv st t := by
  obtain ⟨o, t', hq, h1, h2, g⟩ := k
  exact ⟨o, t', hq, h1, h2, gd_stepC f g⟩
/-- two roads: the outcome is that of the road that is taken -/
theorem wg_br {c : Prop} {pc1 pc2 : Nat} {st1 st2 : List SV} (f : ∀ {p : Program} {l : Launch} {e : Env} {R : Room} {s : State} {m : MethodId} {args : Array Value} {below : List Frame} {meth : Method} {c9 : Code} {H : Heap} {locs : List Loc} {cells slots : Nat} {Q : State → Prop} {ls : Array Slot}, p.tables.exec = Jvm.exec → c9.code = M.2.2.1 →
      (c → W p l e R s m args below meth c9 H locs cells slots Q (F0 m pc1 ls (st1.map vv))) → (¬ c → W p l e R s m args below meth c9 H locs cells slots Q (F0 m pc2 ls (st2.map vv))) → W p l e R s m args below meth c9 H locs cells slots Q (F0 m pc ls (st.map vv)))
    (k1 : c → WG C M d t0 Q pc1 lv st1 t) (k2 : ¬ c → WG C M d t0 Q pc2 lv st2 t) : WG C M d t0 Q pc lv st t := by
  by_cases hc : c
  · exact wg_step (fun hx hb _ k => f hx hb (fun _ => k) (fun z => absurd hc z)) (k1 hc)
  · exact wg_step (fun hx hb _ k => f hx hb (fun z => absurd z hc) (fun _ => k)) (k2 hc)
theorem wg_ifI {c : ClassFile.Cond} {x y : Int32} {off : Int} {A B : Prop} (hdg : decode M.2.2.1 pc = .ok (.if_icmp c off, 3)) (ht : 0 ≤ (pc : Int) + off) (h : ifI c x y A B) (hA : A → WG C M d t0 Q (tgt pc off) lv st t) (hB : B → WG C M d t0 Q (pc + 3) lv st t) : WG C M d t0 Q pc lv (svI y :: svI x :: st) t := by
  have e := tgt_ok ht
  cases c with
  | eq => exact wg_br (c := x = y) (fun hx hb k1 k2 => lv_icmp_eq hx hb hdg e k1 k2) (fun z => hA (h.1 z)) (fun z => hB (h.2 z))
  | ne => exact wg_br (c := x = y) (fun hx hb k1 k2 => lv_icmp_ne hx hb hdg e k2 k1) (fun z => hB (h.1 z)) (fun z => hA (h.2 z))
  | lt => exact wg_br (c := x < y) (fun hx hb k1 k2 => lv_icmp_lt hx hb hdg e k1 k2) (fun z => hA (h.1 z)) (fun z => hB (h.2 z))
  | ge => exact wg_br (c := y ≤ x) (fun hx hb k1 k2 => lv_icmp_ge hx hb hdg e k1 k2) (fun z => hA (h.1 z)) (fun z => hB (h.2 z))
  | gt => exact wg_br (c := y < x) (fun hx hb k1 k2 => lv_icmp_gt hx hb hdg e k1 k2) (fun z => hA (h.1 z)) (fun z => hB (h.2 z))
  | le => exact wg_br (c := x ≤ y) (fun hx hb k1 k2 => lv_icmp_le hx hb hdg e k1 k2) (fun z => hA (h.1 z)) (fun z => hB (h.2 z))
theorem wg_if0 {c : ClassFile.Cond} {x : Int32} {off : Int} {A B : Prop} (hdg : decode M.2.2.1 pc = .ok (.ifCond c off, 3)) (ht : 0 ≤ (pc : Int) + off) (h : ifI c x 0 A B) (hA : A → WG C M d t0 Q (tgt pc off) lv st t) (hB : B → WG C M d t0 Q (pc + 3) lv st t) : WG C M d t0 Q pc lv (svI x :: st) t := by
  have e := tgt_ok ht
  cases c with
  | eq => exact wg_br (c := x = 0) (fun hx hb k1 k2 => lv_if_eq hx hb hdg e k1 k2) (fun z => hA (h.1 z)) (fun z => hB (h.2 z))
  | ne => exact wg_br (c := x = 0) (fun hx hb k1 k2 => lv_if_ne hx hb hdg e k2 k1) (fun z => hB (h.1 z)) (fun z => hA (h.2 z))
  | lt => exact wg_br (c := x < 0) (fun hx hb k1 k2 => lv_if_lt hx hb hdg e k1 k2) (fun z => hA (h.1 z)) (fun z => hB (h.2 z))
  | ge => exact wg_br (c := 0 ≤ x) (fun hx hb k1 k2 => lv_if_ge hx hb hdg e k1 k2) (fun z => hA (h.1 z)) (fun z => hB (h.2 z))
  | gt => exact wg_br (c := 0 < x) (fun hx hb k1 k2 => lv_if_gt hx hb hdg e k1 k2) (fun z => hA (h.1 z)) (fun z => hB (h.2 z))
  | le => exact wg_br (c := x ≤ 0) (fun hx hb k1 k2 => lv_if_le hx hb hdg e k1 k2) (fun z => hA (h.1 z)) (fun z => hB (h.2 z))
/-- a switch: the first pair that names x, else the default -/
theorem sw_of {x : Int32} {J : Int → Prop} {dd : Int} : ∀ (l : List (Int × Int)), (∀ q ∈ l, -2147483648 ≤ q.1 ∧ q.1 ≤ 2147483647) → sw x J (J dd) l → J (Op.lookupswitch.offset l dd x.toInt)
  | [], _, h => h
  | (k, o) :: r, hr, h => by
    obtain ⟨h1, h2⟩ := h
    have hk := hr (k, o) List.mem_cons_self
    have e : (Int32.ofInt k).toInt = k := Int32.toInt_ofInt_of_le hk.1 (by have := hk.2; omega)
    by_cases z : x = Int32.ofInt k
    · have e2 : Op.lookupswitch.offset ((k, o) :: r) dd x.toInt = o := by rw [z, e]; simp [Op.lookupswitch.offset]
      rw [e2]; exact h1 z
    · rw [lv_osw z e]
      exact sw_of r (fun q hq => hr q (List.mem_cons_of_mem _ hq)) (h2 z)
theorem swL_of {x : Int32} {J : Int → Prop} {D : Prop} : ∀ (l : List Int) (lo : Int), -2147483648 ≤ lo → lo + l.length ≤ 2147483648 → sw x J D (swL lo l) → (∃ (i : Nat) (o : Int), l[i]? = some o ∧ x.toInt = lo + i ∧ J o) ∨ ((x.toInt < lo ∨ lo + l.length ≤ x.toInt) ∧ D)
  | [], lo, _, _, h => Or.inr ⟨by simp; omega, h⟩
  | o :: r, lo, h1, h2, h => by
    obtain ⟨k1, k2⟩ := h
    have e : (Int32.ofInt lo).toInt = lo := Int32.toInt_ofInt_of_le h1 (by simp at h2; omega)
    by_cases z : x = Int32.ofInt lo
    · exact Or.inl ⟨0, o, rfl, by rw [z, e]; simp, k1 z⟩
    · have ne : x.toInt ≠ lo := fun e2 => z (Int32.toInt_inj.mp (by rw [e]; exact e2))
      rcases swL_of r (lo + 1) (by omega) (by simp at h2; omega) (k2 z) with ⟨i, o', q1, q2, q3⟩ | ⟨q1, q2⟩
      · exact Or.inl ⟨i + 1, o', q1, by rw [q2]; push_cast; omega, q3⟩
      · refine Or.inr ⟨?_, q2⟩
        simp
        omega
end S1
end
section
/-! arrays of references, casts, constants, statics -/
section GM
variable {C : Cx} {M : Mi} {h0 h h' h1 : Hp} {fr lo fr' lo' : Nat} {o o' : Out} {pc pc' : Nat} {lv lv' : List (Nat × Value)} {st st' rest : List Value}
theorem gd_ldcS {idx n : Nat} {tx : String} (hs : (M.1, idx, tx, n) ∈ strL) (hdg : decode M.2.2.1 pc = .ok (.ldc idx, 2)) (kk : Gd C M fr lo h0 o' h' (pc + 2) lv (.ref (cS C n) :: st) h) : Gd C M fr lo h0 o' h' pc lv st h := by
  intro p e s m args below meth c H locs ls hc hR0 hR hn hu hq hl T hT X
  obtain ⟨t, a1, b1⟩ := kk p e s m args below meth c H locs ls hc hR0 hR hn hu hq hl T hT X
  have hstr := hc.2.2.2.2.2.2.2.2.2.2.2.2.2.2.1 _ hs
  exact ⟨t, X.ldcString hc.1 (own := M.1) (text := tx) (index := idx) (a := cS C n) hc.2.2.2.2.2.2.1 hstr.1 hstr.2 (g := F0 m pc ls st) rfl (by rw [hc.2.1]; exact hdg) _ a1, b1⟩
theorem gd_gets {idx g : Nat} {cn n dsc : String} (hs : (cn, n, dsc, g) ∈ stL) (hlink : Cond.fieldLink M.1 idx cn n dsc ∈ gW) (hdg : decode M.2.2.1 pc = .ok (.getstatic idx, 3)) (kk : Gd C M fr lo h0 o' h' (pc + 3) lv (va_rf (cG C g) :: st) h) : Gd C M fr lo h0 o' h' pc lv st h := by
  intro p e s m args below meth c H locs ls hc hR0 hR hn hu hq hl
  have hold : ∀ q, q < cB C → s.heap[q]? = (cH C)[q]? := hR0.2.2.1
  have hZ := (hc.2.2.2.2.2.2.2.2.2.2.2.2.2.2.2.1 _ hs).kept (H1 := s.heap) (fun a _ ha => hold a (Nat.not_le.mp ha))
  exact va_gets hc.1 hc.2.1 hZ ⟨by rw [hR0.1, hR.1]; exact hn, fun q h1 h2 => by rw [hold q (Nat.not_le.mp h2)]; exact hR.2.2.1 q (Nat.not_le.mp h2), hq⟩ hc.2.2.2.2.2.2.1 (hc.2.2.2.2.2.2.2.2.1 _ hlink args) (fun _ z => z) hdg (kk p e s m args below meth c H locs ls hc hR0 hR hn hu hq hl)
theorem gd_cast {idx a ci : Nat} {r : vw_C} (hr : vwCl[ci]? = some r) (hci : ci < 99) (hk : hK h a = ci + 1) (hw : Cond.classLink M.1 idx r.1 ∈ gW) (hcw : (r.1, r.1) ∈ cWl) (hdg : decode M.2.2.1 pc = .ok (.checkcast idx, 3)) (kk : Gd C M fr lo h0 o' h' (pc + 3) lv (.ref a :: st) h) : Gd C M fr lo h0 o' h' pc lv (.ref a :: st) h := by
  intro p e s m args below meth c H locs ls hc hR0 hR hn hu hq hl
  obtain ⟨-, -, hcell⟩ := hR.2.2.2 a (by rw [hk]; omega)
  obtain ⟨r9, hr9, cell, q1, q2, q3, -⟩ := hcell.1 (by rw [hk]; omega)
  rw [hk, Nat.add_sub_cancel] at q2
  obtain ⟨-, hfc, -⟩ := hc.2.2.2.2.2.2.2.2.2.2.1.1 ci _ hr
  exact va_castY hc.1 hc.2.1 hc.2.2.2.2.2.2.1 (hc.2.2.2.2.2.2.2.2.1 _ hw args) ((hc.2.2.2.2.2.2.2.2.2.2.2.1 _ hcw).word #[]) ⟨cell, q1, by rw [q3]; rfl, by rw [q2]; exact hfc⟩ hdg (kk p e s m args below meth c H locs ls hc hR0 hR hn hu hq hl)
theorem gd_anew {t idx : Nat} {n : Int32} {E : String} (ht : t < 6) (hE : aT t = .object E) (hao : E ∈ aOl) (hw : Cond.classLink M.1 idx E ∈ gW) (hn0 : ¬ n < 0) (hsz : n.toNatClampNeg ≤ 60000000) (hdg : decode M.2.2.1 pc = .ok (.anewarray idx, 3)) (hN' : hN h + 1 ≤ hN h') (hU' : hU h + n.toNatClampNeg ≤ hU h')
    (kk : Gd C M fr lo h0 o' h' (pc + 3) lv (.ref (hN h) :: st) (hNew h (100 + t) n.toNatClampNeg n.toNatClampNeg (fun _ => .null))) : Gd C M fr lo h0 o' h' pc lv (.int n :: st) h := by
  intro p e s m args below meth c H locs ls hc hR0 hR hn hu hq hl
  have hra := (hc.2.2.2.2.2.2.2.2.2.2.1.2 t _ (cTys_at ht)).2
  refine W.anew hc.1 hc.2.1 hc.2.2.2.2.2.2.1 (hc.2.2.2.2.2.2.2.2.1 _ hw args) (va_AO.use (hc.2.2.2.2.2.2.2.2.2.2.2.2.1 _ hao)) (g := F0 m pc ls (.int n :: st)) rfl hdg rfl hn0 (by omega) (by show hN h - hN h0 + 1 ≤ hN h' - hN h0; omega) (by show hU h - hU h0 + n.toNatClampNeg ≤ hU h' - hU h0; omega) fun cA' kA comp z1 z2 z3 z4 => ?_
  have hcA : cA' = cA C t := by
    rw [hE] at hra
    obtain ⟨kA9, comp9, -, -, -, h9⟩ := hra
    exact Option.some.inj (z1.symm.trans h9)
  subst hcA
  rw [arrV_new]
  have e1 : hN (hNew h (100 + t) n.toNatClampNeg n.toNatClampNeg (fun _ => Value.null)) - hN h0 = hN h - hN h0 + 1 := by show hN h + 1 - hN h0 = _; omega
  have e2 : hU (hNew h (100 + t) n.toNatClampNeg n.toNatClampNeg (fun _ => Value.null)) - hU h0 = hU h - hU h0 + n.toNatClampNeg := by show hU h + n.toNatClampNeg - hU h0 = _; omega
  have kk' := kk p e s m args below meth c (H.push (arrV (cA C t) n.toNatClampNeg (fun _ => Value.null))) locs ls hc hR0 (hR.push ⟨fun z => absurd z (by simp [hNew, hK]), fun _ _ => ⟨by simp [hNew, hK]; omega, ?_⟩⟩) (by show hN h0 ≤ hN h + 1; omega) (by show hU h0 ≤ hU h + n.toNatClampNeg; omega) hq hl
  · rw [e1, e2] at kk'
    rw [hR.1]
    exact kk'
  · have e9 : (H.push (arrV (cA C t) n.toNatClampNeg (fun _ => Value.null)))[hN h]? = some (arrV (cA C t) n.toNatClampNeg (fun _ => Value.null)) := by rw [← hR.1]; simp
    rw [e9]
    simp [hNew, hK, hL, hV]
theorem gd_aast {a b t ci : Nat} {j : Int32} {E : String} {r : vw_C} (hk : hK h a = 100 + t) (ht : t < 6) (hE : aT t = .object E) (hi : vp_in j (hL h a)) (hr : vwCl[ci]? = some r) (hci : ci < 99) (hkb : hK h b = ci + 1) (hcw : (r.1, E) ∈ cWl) (hdg : decode M.2.2.1 pc = .ok (.aastore, 1))
    (kk : Gd C M fr lo h0 o' h' (pc + 1) lv st (hSet h a j.toNatClampNeg (.ref b))) : Gd C M fr lo h0 o' h' pc lv (.ref b :: .int j :: .ref a :: st) h := by
  intro p e s m args below meth c H locs ls hc hR0 hR hn hu hq hl
  obtain ⟨hb, he, ha, hra⟩ := gd_arr hc.2.2.2.2.2.2.2.2 hR hk ht
  rw [hE] at hra
  obtain ⟨kA, comp, z1, z2, z3, -⟩ := hra
  obtain ⟨-, -, hcell⟩ := hR.2.2.2 b (by rw [hkb]; omega)
  obtain ⟨r9, hr9, cell, q1, q2, q3, -⟩ := hcell.1 (by rw [hkb]; omega)
  rw [hkb, Nat.add_sub_cancel] at q2
  obtain ⟨-, hfc, kC, hkC, -⟩ := hc.2.2.2.2.2.2.2.2.2.2.1.1 ci _ hr
  obtain ⟨c3, c4, w1, w2, w3⟩ := hc.2.2.2.2.2.2.2.2.2.2.2.1 _ hcw
  cases Option.some.inj (w1.symm.trans hfc)
  cases Option.some.inj (w2.symm.trans z3)
  obtain ⟨kcomp, hkcomp, -⟩ := Vm.findClass_spec z3
  have hlt : j.toNatClampNeg < hL h a := Nat.not_le.mp fun q => hi (Or.inr q)
  have h0' : ¬ j < 0 := fun q => hi (Or.inl q)
  exact W.aast hc.1 hc.2.1 he (fun q z => by cases z) (fun z => by cases z) z1 z2 rfl hkcomp ⟨h0', by rw [arrV_size]; exact hlt⟩ q1 (fun q z => by rw [q3] at z; cases z) (by rw [q2]; exact hkC) (by rw [q2]; exact w3) rfl rfl hdg fun H1 e1 e2 e3 => kk p e s m args below meth c H1 _ ls hc hR0 (gd_ast hc.2.2.2.2.2.2.2.2 hR hk ht e1 e2 e3) hn hu (gd_locs hq hb) hl
theorem gd_aastN {a t : Nat} {j : Int32} {E : String} (hk : hK h a = 100 + t) (ht : t < 6) (hE : aT t = .object E) (hi : vp_in j (hL h a)) (hdg : decode M.2.2.1 pc = .ok (.aastore, 1))
    (kk : Gd C M fr lo h0 o' h' (pc + 1) lv st (hSet h a j.toNatClampNeg .null)) : Gd C M fr lo h0 o' h' pc lv (.null :: .int j :: .ref a :: st) h := by
  intro p e s m args below meth c H locs ls hc hR0 hR hn hu hq hl
  obtain ⟨hb, he, ha, hra⟩ := gd_arr hc.2.2.2.2.2.2.2.2 hR hk ht
  exact va_WaastN (C := E) hc.1 hc.2.1 he (by rw [← hE]; exact ha _ _) (fun z => by cases z) (by rw [arrV_size]; exact hi) rfl rfl hdg fun H1 e1 e2 e3 => kk p e s m args below meth c H1 _ ls hc hR0 (gd_ast hc.2.2.2.2.2.2.2.2 hR hk ht e1 e2 e3) hn hu (gd_locs hq hb) hl
theorem gd_sld {j : Int32} (hi : vp_in j (cX C).2.1) (hdg : decode M.2.2.1 pc = .ok (.iaload, 1)) (kk : Gd C M fr lo h0 o' h' (pc + 1) lv (.int ((cX C).2.2 j.toNatClampNeg) :: st) h) : Gd C M fr lo h0 o' h' pc lv (.int j :: .ref (cX C).1 :: st) h := by
  intro p e s m args below meth c H locs ls hc hR0 hR hn hu hq hl
  obtain ⟨z1, z2⟩ := hc.2.2.2.2.2.2.2.2.2.2.2.2.2.2.2.2.2
  obtain ⟨scr, s1, s2, s3, s4, s5⟩ := z2.kept (H1 := H) (hR.2.2.1 _ z1)
  have hlt : j.toNatClampNeg < (cX C).2.1 := Nat.not_le.mp fun q => hi (Or.inr q)
  exact W.iald hc.1 hc.2.1 s1 s2 s3 (by rw [s4]; exact hi) (s5 _ hlt) rfl rfl hdg (kk p e s m args below meth c H locs ls hc hR0 hR hn hu hq hl)
theorem gd_slen (hdg : decode M.2.2.1 pc = .ok (.arraylength, 1)) (kk : Gd C M fr lo h0 o' h' (pc + 1) lv (.int (nI (cX C).2.1) :: st) h) : Gd C M fr lo h0 o' h' pc lv (.ref (cX C).1 :: st) h := by
  intro p e s m args below meth c H locs ls hc hR0 hR hn hu hq hl
  obtain ⟨z1, z2⟩ := hc.2.2.2.2.2.2.2.2.2.2.2.2.2.2.2.2.2
  obtain ⟨scr, s1, s2, s3, s4, s5⟩ := z2.kept (H1 := H) (hR.2.2.1 _ z1)
  exact W.alen hc.1 hc.2.1 s1 s2 (by rw [s4]; rfl) rfl rfl hdg (kk p e s m args below meth c H locs ls hc hR0 hR hn hu hq hl)
end GM
end
section
/-! every instruction -/
section S2
variable {C : Cx} {M : Mi} {X : MT} {mtab : List ME} {mt : List (Nat × Nat × Nat)} {d : Nat} {t0 t : Ht} {Q : OutT → Ht → Prop} {K : Nat → LV → List SV → Ht → Prop} {pc len : Nat} {lv : LV} {st : List SV} {sc : Option (Nat × Nat × (Nat → Int32))}
theorem tV_of {t : Ht} {a k n : Nat} (h : slN (tK t a) k = n) : tV t a k = vv (rdS t a k n) := by
  unfold tV rdS
  rw [h]
  match n with
  | 0 => rfl
  | 1 => rfl
  | n + 2 => rfl
theorem slN_obj {kd ci k : Nat} (h : kd = ci + 1) (hci : ci < 17) : slN kd k = tyN (fTy ci k) := by
  unfold slN
  rw [if_pos (by omega), h, Nat.add_sub_cancel]
theorem dflt_ok {ty : FieldType} (h : noFl ty = true) : defaultValue ty = dV (tyN ty) := by
  cases ty <;> first | rfl | (cases h)
theorem gd_of {b : Bool} {P : Prop} (h : gd b P) : b = true ∧ P := by
  cases b with
  | true => exact ⟨rfl, h⟩
  | false => exact h.elim
theorem okJ_of {ty : FieldType} {x : Int32} {P : Prop} (h : okJ ty x P) : okI ty x ∧ P := by
  cases ty <;> first | (exact ⟨trivial, h⟩) | (exact ⟨h.1, h.2⟩) | (exact h.elim)
theorem emp_of {α : Type} {l : List α} (h : l.isEmpty = true) : l = [] := List.isEmpty_iff.mp h
/-- caught here, or out -/
theorem exc_sound (hC : CodeOK M X) (hK : ∀ pc lv st t, K pc lv st t → WG C M d t0 Q pc lv st t) {kd a : Nat} {st : List Value} (h : exc X Q K pc lv t kd a) :
    ∃ (o : OutT) (t' : Ht), Q o t' ∧ tN t ≤ tN t' ∧ tU t ≤ tU t' ∧ Gx C M (frD d) (loD d) (tv t0) (oo o) (tv t') pc (lv.map fv) st (tv t) kd a := by
  unfold exc at h
  rcases hC.2.2.2.1 with ⟨h1, h2⟩ | ⟨s, e, hpc, ct, kd', h1, h2, h3, h4⟩
  · rw [h2] at h
    exact ⟨_, t, h, Nat.le_refl _, Nat.le_refl _, gx_out (by rw [h1]; intro q hq; cases hq)⟩
  · rw [h2] at h
    dsimp only at h
    by_cases hcov : s ≤ pc ∧ pc < e
    · rw [if_pos hcov] at h
      obtain ⟨rfl, h⟩ := h
      rcases h4 with ⟨rfl, hw⟩ | ⟨e9, he9, rfl, hw⟩
      · rw [if_pos rfl] at h
        obtain ⟨o, t', q1, q2, q3, q4⟩ := hK _ _ _ _ h
        exact ⟨o, t', q1, q2, q3, gx_catch16 h1 hcov.1 hcov.2 h3 hw q4⟩
      · rw [if_neg (by omega)] at h
        split at h
        · rename_i k l9 heq
          obtain ⟨z1, z2, z3, -⟩ := hC.1 _ _ _ heq
          simp only [ilenOK, beq_iff_eq] at z2
          subst z2
          obtain ⟨o, t', q1, q2, q3, q4⟩ := hK _ _ _ _ h
          refine ⟨o, t', q1, q2, q3, gx_catchX (k := k.val) he9 h1 hcov.1 hcov.2 h3 hw (by simpa [stoOK] using z3) (Or.inl ⟨k, z1, rfl, rfl⟩) ?_⟩
          rw [fmap_filter (p := fun q => !(q.1 == k.val) && !(q.1 + 1 == k.val && (vv q.2).category == 2)) (fun _ => rfl)]
          exact q4
        · rename_i k l9 heq
          obtain ⟨z1, z2, z3, -⟩ := hC.1 _ _ _ heq
          simp only [ilenOK, beq_iff_eq] at z2
          subst z2
          obtain ⟨o, t', q1, q2, q3, q4⟩ := hK _ _ _ _ h
          refine ⟨o, t', q1, q2, q3, gx_catchX (k := k) he9 h1 hcov.1 hcov.2 h3 hw (by simpa [stoOK] using z3) (Or.inr ⟨z1, rfl⟩) ?_⟩
          rw [fmap_filter (p := fun q => !(q.1 == k) && !(q.1 + 1 == k && (vv q.2).category == 2)) (fun _ => rfl)]
          exact q4
        · exact h.elim
    · rw [if_neg hcov] at h
      exact ⟨_, t, h, Nat.le_refl _, Nat.le_refl _, gx_out (by rw [h1]; intro q hq; rw [List.mem_singleton.mp hq]; exact hcov)⟩
theorem retK_of {rk : Nat} {v : Option SV} {f : List SV → Prop} (h : retK rk v f) : f v.toList := by
  unfold retK at h
  split at h
  · obtain ⟨rfl, h⟩ := h; exact h
  · unfold rI at h; split at h
    · exact h
    · exact h.elim
  · unfold rJ at h; split at h
    · exact h
    · exact h.elim
  · unfold rR at h; split at h
    · exact h
    · exact h.elim
theorem aft_sound {rk : Nat} (hC : CodeOK M X) (hK : ∀ pc lv st t, K pc lv st t → WG C M d t0 Q pc lv st t) {o1 : OutT} (h : aft X Q K rk pc lv st o1 t) :
    ∃ (o : OutT) (t' : Ht), Q o t' ∧ tN t ≤ tN t' ∧ tU t ≤ tU t' ∧ Aft C M (frD d) (loD d) (tv t0) (oo o) (tv t') pc (lv.map fv) (st.map vv) (oo o1) (tv t) := by
  cases o1 with
  | inl v =>
    have h := retK_of (f := fun l => K (pc + 3) lv (l ++ st) t) h
    obtain ⟨o, t', q1, q2, q3, q4⟩ := hK _ _ _ _ h
    refine ⟨o, t', q1, q2, q3, ?_⟩
    cases v with
    | none => exact q4
    | some v => exact q4
  | inr x => exact exc_sound hC hK h
theorem gW_byte : Cond.arrayClass (aT 0) ∈ gW := List.mem_filter.mpr ⟨by decide +kernel, by decide +kernel⟩
theorem gW_int : Cond.arrayClass (aT 1) ∈ gW := List.mem_filter.mpr ⟨by decide +kernel, by decide +kernel⟩
theorem gW_long : Cond.arrayClass (aT 2) ∈ gW := List.mem_filter.mpr ⟨by decide +kernel, by decide +kernel⟩
set_option maxHeartbeats 4000000 in
theorem st1_sound (hP : PoolOK M.1 X.2.1 mtab mt) (hC : CodeOK M X) (hK : ∀ pc lv st t, K pc lv st t → WG C M (d + 1) t0 Q pc lv st t) {i : Instr} (hi : X.1.lookup pc = some (i, len))
    (hsc : ∀ s9, sc = some s9 → s9 = cX C) (h : st1 (CalG C mtab d) mt (cS C) (cG C) sc X Q K i len pc lv st t) : WG C M (d + 1) t0 Q pc lv st t := by
  obtain ⟨hdg, hl, hs, htg⟩ := hC.1 pc i len hi
  cases i with
  | aconst_null =>
    simp only [ilenOK, beq_iff_eq] at hl; subst hl
    exact wg_step (st' := svR none :: st) (fun hx hb _ k => lv_null hx hb hdg k) (hK _ _ _ _ h)
  | iconst n =>
    simp only [ilenOK, beq_iff_eq] at hl; subst hl
    exact wg_step (st' := svI _ :: st) (fun hx hb _ k => lv_iconst hx hb hdg rfl k) (hK _ _ _ _ h)
  | bipush n =>
    simp only [ilenOK, beq_iff_eq] at hl; subst hl
    exact wg_step (st' := svI _ :: st) (fun hx hb _ k => lv_bipush hx hb hdg rfl k) (hK _ _ _ _ h)
  | sipush n =>
    simp only [ilenOK, beq_iff_eq] at hl; subst hl
    exact wg_step (st' := svI _ :: st) (fun hx hb _ k => lv_sipush hx hb hdg rfl k) (hK _ _ _ _ h)
  | lconst n =>
    simp only [ilenOK, beq_iff_eq] at hl; subst hl
    exact wg_step (st' := svJ _ :: st) (fun hx hb _ k => lv_lconst hx hb hdg rfl k) (hK _ _ _ _ h)
  | ldc idx =>
    simp only [ilenOK, beq_iff_eq] at hl; subst hl
    simp only [st1] at h
    split at h
    · rename_i v heq
      exact wg_stepC (st' := svI v :: st) (fun hx hb ho ht k => lv_ldc hx hb ho (ht _ (hP.2.2.2.1 idx v heq)) hdg k) (hK _ _ _ _ h)
    · split at h
      · rename_i n heq
        obtain ⟨tx, htx⟩ := hP.2.2.2.2.2.1 idx n heq
        obtain ⟨o, t', q1, q2, q3, q4⟩ := hK _ _ _ _ h
        exact ⟨o, t', q1, q2, q3, gd_ldcS htx hdg q4⟩
      · exact h.elim
  | ldc_w idx =>
    simp only [ilenOK, beq_iff_eq] at hl; subst hl
    simp only [st1] at h
    split at h
    · rename_i v heq
      exact wg_stepC (st' := svI v :: st) (fun hx hb ho ht k => lv_ldcw hx hb ho (ht _ (hP.2.2.2.1 idx v heq)) hdg k) (hK _ _ _ _ h)
    · exact h.elim
  | ldc2_w idx =>
    simp only [ilenOK, beq_iff_eq] at hl; subst hl
    simp only [st1] at h
    split at h
    · rename_i v heq
      exact wg_stepC (st' := svJ v :: st) (fun hx hb ho ht k => lv_ldc2 hx hb ho (ht _ (hP.2.2.2.2.1 idx v heq)) hdg k) (hK _ _ _ _ h)
    · exact h.elim
  | iload k =>
    simp only [ilenOK, beq_iff_eq] at hl; subst hl
    simp only [st1] at h
    split at h
    · rename_i x heq
      exact wg_step (st' := svI x :: st) (fun hx hb hv k => lv_iload hx hb hdg (lk_at heq hv) k) (hK _ _ _ _ h)
    · exact h.elim
  | iload_n k =>
    simp only [ilenOK, beq_iff_eq] at hl; subst hl
    simp only [st1] at h
    split at h
    · rename_i x heq
      exact wg_step (st' := svI x :: st) (fun hx hb hv k => lv_iload_n hx hb hdg rfl (lk_at heq hv) k) (hK _ _ _ _ h)
    · exact h.elim
  | lload k =>
    simp only [ilenOK, beq_iff_eq] at hl; subst hl
    simp only [st1] at h
    split at h
    · rename_i x heq
      exact wg_step (st' := svJ x :: st) (fun hx hb hv k => lv_lload hx hb hdg (lk_at heq hv) k) (hK _ _ _ _ h)
    · exact h.elim
  | lload_n k =>
    simp only [ilenOK, beq_iff_eq] at hl; subst hl
    simp only [st1] at h
    split at h
    · rename_i x heq
      exact wg_step (st' := svJ x :: st) (fun hx hb hv k => lv_lload_n hx hb hdg rfl (lk_at heq hv) k) (hK _ _ _ _ h)
    · exact h.elim
  | aload k =>
    simp only [ilenOK, beq_iff_eq] at hl; subst hl
    simp only [st1] at h
    split at h
    · rename_i x heq
      cases x with
      | none => exact wg_step (st' := svR none :: st) (fun hx hb hv k => lv_aloadN hx hb hdg (lk_at heq hv) k) (hK _ _ _ _ h)
      | some a => exact wg_step (st' := svR (some a) :: st) (fun hx hb hv k => lv_aload hx hb hdg (lk_at heq hv) k) (hK _ _ _ _ h)
    · exact h.elim
  | aload_n k =>
    simp only [ilenOK, beq_iff_eq] at hl; subst hl
    simp only [st1] at h
    split at h
    · rename_i x heq
      cases x with
      | none => exact wg_step (st' := svR none :: st) (fun hx hb hv k => lv_aload_nN hx hb hdg rfl (lk_at heq hv) k) (hK _ _ _ _ h)
      | some a => exact wg_step (st' := svR (some a) :: st) (fun hx hb hv k => lv_aload_n hx hb hdg rfl (lk_at heq hv) k) (hK _ _ _ _ h)
    · exact h.elim
  | istore k =>
    simp only [ilenOK, beq_iff_eq] at hl; subst hl
    obtain ⟨x, r, rfl, h⟩ := popI_of h
    exact wg_stepL (st' := r) (lv' := lset1 lv k (svI x)) (fun hx hb hv kk => lv_istore hx hb hdg hv (by simpa [stoOK] using hs) (lset1_map (v := svI x)) kk) (hK _ _ _ _ h)
  | istore_n k =>
    simp only [ilenOK, beq_iff_eq] at hl; subst hl
    obtain ⟨x, r, rfl, h⟩ := popI_of h
    exact wg_stepL (st' := r) (lv' := lset1 lv k.val (svI x)) (fun hx hb hv kk => lv_istore_n hx hb hdg rfl hv (by simpa [stoOK] using hs) (lset1_map (v := svI x)) kk) (hK _ _ _ _ h)
  | lstore k =>
    simp only [ilenOK, beq_iff_eq] at hl; subst hl
    obtain ⟨x, r, rfl, h⟩ := popJ_of h
    exact wg_stepL (st' := r) (lv' := lset2 lv k (svJ x)) (fun hx hb hv kk => lv_lstore hx hb hdg hv (by simpa [stoOK] using hs) (lset2_map (v := svJ x)) kk) (hK _ _ _ _ h)
  | lstore_n k =>
    simp only [ilenOK, beq_iff_eq] at hl; subst hl
    obtain ⟨x, r, rfl, h⟩ := popJ_of h
    exact wg_stepL (st' := r) (lv' := lset2 lv k.val (svJ x)) (fun hx hb hv kk => lv_lstore_n hx hb hdg rfl hv (by simpa [stoOK] using hs) (lset2_map (v := svJ x)) kk) (hK _ _ _ _ h)
  | astore k =>
    simp only [ilenOK, beq_iff_eq] at hl; subst hl
    obtain ⟨x, r, rfl, h⟩ := popR_of h
    cases x with
    | none => exact wg_stepL (st' := r) (lv' := lset1 lv k (svR none)) (fun hx hb hv kk => lv_astoreN hx hb hdg hv (by simpa [stoOK] using hs) (lset1_map (v := svR none)) kk) (hK _ _ _ _ h)
    | some a => exact wg_stepL (st' := r) (lv' := lset1 lv k (svR (some a))) (fun hx hb hv kk => lv_astore hx hb hdg hv (by simpa [stoOK] using hs) (lset1_map (v := svR (some a))) kk) (hK _ _ _ _ h)
  | astore_n k =>
    simp only [ilenOK, beq_iff_eq] at hl; subst hl
    obtain ⟨x, r, rfl, h⟩ := popR_of h
    cases x with
    | none => exact wg_stepL (st' := r) (lv' := lset1 lv k.val (svR none)) (fun hx hb hv kk => lv_astore_nN hx hb hdg rfl hv (by simpa [stoOK] using hs) (lset1_map (v := svR none)) kk) (hK _ _ _ _ h)
    | some a => exact wg_stepL (st' := r) (lv' := lset1 lv k.val (svR (some a))) (fun hx hb hv kk => lv_astore_n hx hb hdg rfl hv (by simpa [stoOK] using hs) (lset1_map (v := svR (some a))) kk) (hK _ _ _ _ h)
  | iinc k n =>
    simp only [ilenOK, beq_iff_eq] at hl; subst hl
    simp only [st1] at h
    split at h
    · rename_i x heq
      obtain ⟨pl, hpl⟩ := List.getElem?_of_mem (List.mem_map_of_mem (f := fv) (lk_mem heq))
      exact wg_stepL (st' := st) (lv' := lset1 lv k (svI (x + Int32.ofInt n))) (fun hx hb hv kk => lv_iinc hx hb hdg hv hpl rfl (by simpa [stoOK] using hs) (lset1_map (v := svI (x + Int32.ofInt n))) kk) (hK _ _ _ _ h)
    · exact h.elim
  | pop =>
    simp only [ilenOK, beq_iff_eq] at hl; subst hl
    simp only [st1] at h
    cases st with
    | nil => exact h.elim
    | cons v r =>
      obtain ⟨g1, g2⟩ := gd_of h
      exact wg_step (st' := r) (fun hx hb _ k => lv_pop hx hb hdg (svC_cat (by simpa using g1)) k) (hK _ _ _ _ g2)
  | dup =>
    simp only [ilenOK, beq_iff_eq] at hl; subst hl
    simp only [st1] at h
    cases st with
    | nil => exact h.elim
    | cons v r =>
      obtain ⟨g1, g2⟩ := gd_of h
      exact wg_step (st' := v :: v :: r) (fun hx hb _ k => lv_dup hx hb hdg (svC_cat (by simpa using g1)) k) (hK _ _ _ _ g2)
  | dup2 =>
    simp only [ilenOK, beq_iff_eq] at hl; subst hl
    simp only [st1] at h
    split at h
    · rename_i y r
      exact wg_step (st' := svJ y :: svJ y :: r) (fun hx hb _ k => lv_dup2_2 (va := .long y) hx hb hdg rfl k) (hK _ _ _ _ h)
    · rename_i v w r _
      obtain ⟨g1, g2⟩ := gd_of h
      rw [Bool.and_eq_true] at g1
      exact wg_step (st' := v :: w :: v :: w :: r) (fun hx hb _ k => lv_dup2_11 hx hb hdg (svC_cat (by simpa using g1.1)) (svC_cat (by simpa using g1.2)) k) (hK _ _ _ _ g2)
    · exact h.elim
  | iadd =>
    simp only [ilenOK, beq_iff_eq] at hl; subst hl
    obtain ⟨y, r, rfl, h⟩ := popI_of h
    obtain ⟨x, r, rfl, h⟩ := popI_of h
    exact wg_step (st' := svI (x + y) :: r) (fun hx hb _ k => lv_iadd hx hb hdg k) (hK _ _ _ _ h)
  | isub =>
    simp only [ilenOK, beq_iff_eq] at hl; subst hl
    obtain ⟨y, r, rfl, h⟩ := popI_of h
    obtain ⟨x, r, rfl, h⟩ := popI_of h
    exact wg_step (st' := svI (x - y) :: r) (fun hx hb _ k => lv_isub hx hb hdg k) (hK _ _ _ _ h)
  | imul =>
    simp only [ilenOK, beq_iff_eq] at hl; subst hl
    obtain ⟨y, r, rfl, h⟩ := popI_of h
    obtain ⟨x, r, rfl, h⟩ := popI_of h
    exact wg_step (st' := svI (x * y) :: r) (fun hx hb _ k => lv_imul hx hb hdg k) (hK _ _ _ _ h)
  | iand =>
    simp only [ilenOK, beq_iff_eq] at hl; subst hl
    obtain ⟨y, r, rfl, h⟩ := popI_of h
    obtain ⟨x, r, rfl, h⟩ := popI_of h
    exact wg_step (st' := svI (x &&& y) :: r) (fun hx hb _ k => lv_iand hx hb hdg k) (hK _ _ _ _ h)
  | ior =>
    simp only [ilenOK, beq_iff_eq] at hl; subst hl
    obtain ⟨y, r, rfl, h⟩ := popI_of h
    obtain ⟨x, r, rfl, h⟩ := popI_of h
    exact wg_step (st' := svI (x ||| y) :: r) (fun hx hb _ k => lv_ior hx hb hdg k) (hK _ _ _ _ h)
  | ixor =>
    simp only [ilenOK, beq_iff_eq] at hl; subst hl
    obtain ⟨y, r, rfl, h⟩ := popI_of h
    obtain ⟨x, r, rfl, h⟩ := popI_of h
    exact wg_step (st' := svI (x ^^^ y) :: r) (fun hx hb _ k => lv_ixor hx hb hdg k) (hK _ _ _ _ h)
  | ishl =>
    simp only [ilenOK, beq_iff_eq] at hl; subst hl
    obtain ⟨y, r, rfl, h⟩ := popI_of h
    obtain ⟨x, r, rfl, h⟩ := popI_of h
    exact wg_step (st' := svI (x <<< (y &&& 31)) :: r) (fun hx hb _ k => lv_ishl hx hb hdg k) (hK _ _ _ _ h)
  | ishr =>
    simp only [ilenOK, beq_iff_eq] at hl; subst hl
    obtain ⟨y, r, rfl, h⟩ := popI_of h
    obtain ⟨x, r, rfl, h⟩ := popI_of h
    exact wg_step (st' := svI (x >>> (y &&& 31)) :: r) (fun hx hb _ k => lv_ishr hx hb hdg k) (hK _ _ _ _ h)
  | idiv =>
    simp only [ilenOK, beq_iff_eq] at hl; subst hl
    obtain ⟨y, r, rfl, h⟩ := popI_of h
    obtain ⟨x, r, rfl, h⟩ := popI_of h
    exact wg_step (st' := svI (x / y) :: r) (fun hx hb _ k => lv_idiv hx hb hdg h.1 k) (hK _ _ _ _ h.2)
  | irem =>
    simp only [ilenOK, beq_iff_eq] at hl; subst hl
    obtain ⟨y, r, rfl, h⟩ := popI_of h
    obtain ⟨x, r, rfl, h⟩ := popI_of h
    exact wg_step (st' := svI (x - x / y * y) :: r) (fun hx hb _ k => lv_irem hx hb hdg h.1 k) (hK _ _ _ _ h.2)
  | ladd =>
    simp only [ilenOK, beq_iff_eq] at hl; subst hl
    obtain ⟨y, r, rfl, h⟩ := popJ_of h
    obtain ⟨x, r, rfl, h⟩ := popJ_of h
    exact wg_step (st' := svJ (x + y) :: r) (fun hx hb _ k => lv_ladd hx hb hdg k) (hK _ _ _ _ h)
  | lsub =>
    simp only [ilenOK, beq_iff_eq] at hl; subst hl
    obtain ⟨y, r, rfl, h⟩ := popJ_of h
    obtain ⟨x, r, rfl, h⟩ := popJ_of h
    exact wg_step (st' := svJ (x - y) :: r) (fun hx hb _ k => lv_lsub hx hb hdg k) (hK _ _ _ _ h)
  | lmul =>
    simp only [ilenOK, beq_iff_eq] at hl; subst hl
    obtain ⟨y, r, rfl, h⟩ := popJ_of h
    obtain ⟨x, r, rfl, h⟩ := popJ_of h
    exact wg_step (st' := svJ (x * y) :: r) (fun hx hb _ k => lv_lmul hx hb hdg k) (hK _ _ _ _ h)
  | ldiv =>
    simp only [ilenOK, beq_iff_eq] at hl; subst hl
    obtain ⟨y, r, rfl, h⟩ := popJ_of h
    obtain ⟨x, r, rfl, h⟩ := popJ_of h
    exact wg_step (st' := svJ (x / y) :: r) (fun hx hb _ k => lv_ldiv hx hb hdg h.1 k) (hK _ _ _ _ h.2)
  | lrem =>
    simp only [ilenOK, beq_iff_eq] at hl; subst hl
    obtain ⟨y, r, rfl, h⟩ := popJ_of h
    obtain ⟨x, r, rfl, h⟩ := popJ_of h
    exact wg_step (st' := svJ (x - x / y * y) :: r) (fun hx hb _ k => lv_lrem hx hb hdg h.1 k) (hK _ _ _ _ h.2)
  | lneg =>
    simp only [ilenOK, beq_iff_eq] at hl; subst hl
    obtain ⟨x, r, rfl, h⟩ := popJ_of h
    exact wg_step (st' := svJ (-x) :: r) (fun hx hb _ k => lv_lneg hx hb hdg k) (hK _ _ _ _ h)
  | lcmp =>
    simp only [ilenOK, beq_iff_eq] at hl; subst hl
    obtain ⟨y, r, rfl, h⟩ := popJ_of h
    obtain ⟨x, r, rfl, h⟩ := popJ_of h
    exact wg_step (st' := svI (lg_cmp x y) :: r) (fun hx hb _ k => W.lcmp hx hb hdg k) (hK _ _ _ _ h)
  | i2l =>
    simp only [ilenOK, beq_iff_eq] at hl; subst hl
    obtain ⟨x, r, rfl, h⟩ := popI_of h
    exact wg_step (st' := svJ x.toInt64 :: r) (fun hx hb _ k => lv_i2l hx hb hdg rfl k) (hK _ _ _ _ h)
  | l2i =>
    simp only [ilenOK, beq_iff_eq] at hl; subst hl
    obtain ⟨x, r, rfl, h⟩ := popJ_of h
    exact wg_step (st' := svI x.toInt32 :: r) (fun hx hb _ k => lv_l2i hx hb hdg rfl k) (hK _ _ _ _ h)
  | i2b =>
    simp only [ilenOK, beq_iff_eq] at hl; subst hl
    obtain ⟨x, r, rfl, h⟩ := popI_of h
    exact wg_step (st' := svI x.toInt8.toInt32 :: r) (fun hx hb _ k => lv_i2b hx hb hdg rfl k) (hK _ _ _ _ h)
  | ifCond c off =>
    simp only [ilenOK, beq_iff_eq] at hl; subst hl
    obtain ⟨x, r, rfl, h⟩ := popI_of h
    exact wg_if0 hdg (by simpa [tgtOK] using htg) h (hK _ _ _ _) (hK _ _ _ _)
  | if_icmp c off =>
    simp only [ilenOK, beq_iff_eq] at hl; subst hl
    obtain ⟨y, r, rfl, h⟩ := popI_of h
    obtain ⟨x, r, rfl, h⟩ := popI_of h
    exact wg_ifI hdg (by simpa [tgtOK] using htg) h (hK _ _ _ _) (hK _ _ _ _)
  | ifnull off =>
    simp only [ilenOK, beq_iff_eq] at hl; subst hl
    obtain ⟨x, r, rfl, h⟩ := popR_of h
    have e := tgt_ok (pc := pc) (off := off) (by simpa [tgtOK] using htg)
    cases x with
    | none => exact wg_step (st' := r) (fun hx hb _ k => lv_ifnullN hx hb hdg e k) (hK _ _ _ _ h)
    | some a => exact wg_step (st' := r) (fun hx hb _ k => lv_ifnull hx hb hdg k) (hK _ _ _ _ h)
  | ifnonnull off =>
    simp only [ilenOK, beq_iff_eq] at hl; subst hl
    obtain ⟨x, r, rfl, h⟩ := popR_of h
    have e := tgt_ok (pc := pc) (off := off) (by simpa [tgtOK] using htg)
    cases x with
    | none => exact wg_step (st' := r) (fun hx hb _ k => lv_ifnonnullN hx hb hdg k) (hK _ _ _ _ h)
    | some a => exact wg_step (st' := r) (fun hx hb _ k => lv_ifnonnull hx hb hdg e k) (hK _ _ _ _ h)
  | goto off =>
    simp only [ilenOK, beq_iff_eq] at hl; subst hl
    exact wg_step (st' := st) (fun hx hb _ k => lv_goto hx hb hdg (tgt_ok (by simpa [tgtOK] using htg)) k) (hK _ _ _ _ h)
  | lookupswitch dd ps =>
    obtain ⟨x, r, rfl, h⟩ := popI_of h
    simp only [tgtOK, Bool.and_eq_true, decide_eq_true_eq, List.all_eq_true] at htg
    obtain ⟨⟨⟨t1, t2⟩, t3⟩, t4⟩ := htg
    have h9 := sw_of (J := fun o => K (tgt pc o) lv r t) ps.toList (fun q hq => by have := t4 q hq; simpa using this) h
    have hoff : 0 ≤ (pc : Int) + Op.lookupswitch.offset ps.toList dd x.toInt := by
      have key : ∀ l : List (Int × Int), (∀ q ∈ l, 0 ≤ (pc : Int) + q.2) → 0 ≤ (pc : Int) + Op.lookupswitch.offset l dd x.toInt := by
        intro l
        induction l with
        | nil => intro _; simpa [Op.lookupswitch.offset] using t1
        | cons q l ih =>
          intro hq
          obtain ⟨k, o⟩ := q
          unfold Op.lookupswitch.offset
          split
          · exact hq _ List.mem_cons_self
          · exact ih (fun z hz => hq z (List.mem_cons_of_mem _ hz))
      exact key _ (fun q hq => by have := t2 q hq; simpa using this)
    exact wg_step (st' := r) (fun hx hb _ k => lv_lookup hx hb hdg (by simpa [List.all_eq_true] using t3) rfl (tgt_ok hoff) k) (hK _ _ _ _ h9)
  | tableswitch dd lo hi offs =>
    obtain ⟨x, r, rfl, h⟩ := popI_of h
    simp only [tgtOK, Bool.and_eq_true, decide_eq_true_eq, List.all_eq_true] at htg
    obtain ⟨⟨⟨⟨t1, t2⟩, t3⟩, t4⟩, t5⟩ := htg
    have hsz : (offs.toList.length : Int) = offs.size := by simp
    rcases swL_of (J := fun o => K (tgt pc o) lv r t) offs.toList lo t4 (by rw [hsz]; omega) h with ⟨j, o, q1, q2, q3⟩ | ⟨q1, q2⟩
    · have hj : j < offs.toList.length := (List.getElem?_eq_some_iff.mp q1).1
      have ho : offs[(x.toInt - lo).toNat]? = some o := by
        rw [q2, show (lo + (j : Int) - lo).toNat = j by omega, ← Array.getElem?_toList]; exact q1
      have hoff : 0 ≤ (pc : Int) + o := by have := t2 o (List.mem_of_getElem? q1); simpa using this
      exact wg_step (st' := r) (fun hx hb _ k => lv_tableIn hx hb hdg (by omega) (by omega) ho (tgt_ok hoff) k) (hK _ _ _ _ q3)
    · exact wg_step (st' := r) (fun hx hb _ k => lv_tableOut hx hb hdg (by omega) (tgt_ok (by simpa using t1)) k) (hK _ _ _ _ q2)
  | getfield idx =>
    simp only [ilenOK, beq_iff_eq] at hl; subst hl
    obtain ⟨x, r, e1, h2⟩ := popR_of h
    subst e1; clear h
    obtain ⟨a, e2, h3⟩ := onR_of h2
    subst e2; clear h2
    split at h3
    · rename_i ci k w heq
      obtain ⟨hci, rr, ⟨c1, c2, c3, c4, c5⟩, hk, hlink, -⟩ := hP.1 idx ci k w heq
      obtain ⟨hka, h⟩ := h3
      obtain ⟨o, t', q1, q2, q3, q4⟩ := hK _ _ _ _ h
      refine ⟨o, t', q1, q2, q3, gd_get (a := a) (ci := ci) (k := k) (st := r.map vv) ⟨rr, fTy ci, c1, hk, c2, c3, c4, hlink⟩ hka (by omega) hdg ?_⟩
      have e : hV (tv t) a k = vv (rdS t a k (tyN (fTy ci k))) := tV_of (slN_obj hka hci)
      rw [e]
      exact q4
    · exact h3.elim
  | putfield idx =>
    simp only [ilenOK, beq_iff_eq] at hl; subst hl
    simp only [st1] at h
    cases st with
    | nil => exact h.elim
    | cons v st =>
      obtain ⟨x, r, e1, h2⟩ := popR_of h
      subst e1; clear h
      obtain ⟨a, e2, h3⟩ := onR_of h2
      subst e2; clear h2
      split at h3
      · rename_i ci k w heq
        obtain ⟨hci, rr, ⟨c1, c2, c3, c4, c5⟩, hk, hlink, hw1⟩ := hP.1 idx ci k w heq
        obtain ⟨hka, h⟩ := h3
        obtain ⟨g1, h⟩ := gd_of h
        have hfin : isFin ci k = false ∨ (w = 1 ∧ X.2.2.2.1 = true) := by
          rw [Bool.or_eq_true] at g1
          rcases g1 with z | z
          · exact Or.inl (by simpa using z)
          · rw [Bool.and_eq_true] at z
            exact Or.inr ⟨by simpa using z.1, z.2⟩
        have hsl := slN_obj (k := k) hka hci
        have hF : FL M idx ci k := ⟨rr, fTy ci, c1, hk, c2, c3, c4, hlink⟩
        have hty : ∀ r, vwCl[ci]? = some r → parseFieldDescriptor (r.2.1 k).2.2.1 = some (fTy ci k) := fun r9 h9 => by cases c1.symm.trans h9; exact c3 k hk
        have hfin' : ∀ r : vw_C, vwCl[ci]? = some r → (r.2.1 k).2.2.2 = true → M.2.1 = "<init>" ∧ (r.2.1 k).1 = M.1 ∧ Cond.fieldLink M.1 idx (r.2.1 k).1 (r.2.1 k).2.1 (r.2.1 k).2.2.1 ∈ gW := by
          intro r9 h9 hf
          cases c1.symm.trans h9
          have hfe : isFin ci k = true := by
            unfold isFin
            have : vwCl.getD ci ("", fun _ => ("", "", "", false), 0) = rr := by rw [List.getD_eq_getElem?_getD, c1]; rfl
            rw [this]; exact hf
          rcases hfin with z | ⟨z1, z2⟩
          · rw [hfe] at z; cases z
          · obtain ⟨w1, w2⟩ := hw1 z1
            exact ⟨hC.2.2.1 z2, w1, w2⟩
        rcases v with x | x | x
        · have hn0 : tyN (fTy ci k) = 0 := by
            generalize tyN (fTy ci k) = n at h
            match n, h with
            | 0, _ => rfl
            | 1, h => exact h.elim
            | 2, h => exact h.elim
            | n + 3, h => exact h.elim
          rw [hn0] at h
          obtain ⟨hok, h⟩ := okJ_of h
          obtain ⟨o, t', q1, q2, q3, q4⟩ := hK _ _ _ _ h
          refine ⟨o, t', q1, q2, q3, gd_put (st := r.map vv) hF hty hka (by omega) ?_ hfin' hdg ?_⟩
          · generalize fTy ci k = ty at hok
            cases ty <;> first | (exact hok.elim) | (exact ⟨rfl, rfl⟩) | (rcases hok with rfl | rfl <;> exact ⟨by decide, by decide⟩)
          · rw [show vv (Sum.inl x) = Value.int x from rfl, hSet_sI (hsl.trans hn0)]
            exact q4
        · have hn0 : tyN (fTy ci k) = 1 := by
            generalize tyN (fTy ci k) = n at h
            match n, h with
            | 0, h => exact h.elim
            | 1, _ => rfl
            | 2, h => exact h.elim
            | n + 3, h => exact h.elim
          rw [hn0] at h
          obtain ⟨o, t', q1, q2, q3, q4⟩ := hK _ _ _ _ h
          refine ⟨o, t', q1, q2, q3, gd_put (st := r.map vv) hF hty hka (by omega) ?_ hfin' hdg ?_⟩
          · generalize fTy ci k = ty at hn0
            cases ty <;> first | (exact ⟨rfl, rfl⟩) | (cases hn0)
          · rw [show vv (Sum.inr (Sum.inl x)) = Value.long x from rfl, hSet_sJ (hsl.trans hn0)]
            exact q4
        · have hn0 : tyN (fTy ci k) = 2 := by
            generalize tyN (fTy ci k) = n at h
            match n, h with
            | 0, h => exact h.elim
            | 1, h => exact h.elim
            | 2, _ => rfl
            | n + 3, h => exact h.elim
          rw [hn0] at h
          obtain ⟨o, t', q1, q2, q3, q4⟩ := hK _ _ _ _ h
          refine ⟨o, t', q1, q2, q3, gd_put (st := r.map vv) hF hty hka (by omega) ?_ hfin' hdg ?_⟩
          · generalize fTy ci k = ty at hn0
            cases ty <;> first | (cases x <;> exact ⟨rfl, rfl⟩) | (cases hn0)
          · rw [show vv (Sum.inr (Sum.inr x)) = va_rf x from rfl, hSet_sR (hsl.trans hn0)]
            exact q4
      · exact h3.elim
  | getstatic idx =>
    simp only [ilenOK, beq_iff_eq] at hl; subst hl
    simp only [st1] at h
    split at h
    · rename_i g heq
      obtain ⟨cn, n, dsc, g1, g2⟩ := hP.2.2.2.2.2.2 idx g heq
      obtain ⟨o, t', q1, q2, q3, q4⟩ := hK _ _ _ _ h
      exact ⟨o, t', q1, q2, q3, gd_gets g1 g2 hdg q4⟩
    · exact h.elim
  | arraylength =>
    simp only [ilenOK, beq_iff_eq] at hl; subst hl
    cases sc with
    | none =>
      obtain ⟨x, r, e1, h2⟩ := popR_of h
      subst e1; clear h
      obtain ⟨a, e2, h3⟩ := onR_of h2
      subst e2; clear h2
      obtain ⟨k1, k2, h⟩ := h3
      obtain ⟨o, t', q1, q2, q3, q4⟩ := hK _ _ _ _ h
      exact ⟨o, t', q1, q2, q3, gd_alen (a := a) (t := tK t a - 100) (st := r.map vv) (by show tK t a = _; omega) (by omega) hdg q4⟩
    | some s9 =>
      have e9 := hsc s9 rfl
      subst e9
      obtain ⟨x, r, e1, h2⟩ := popR_of h
      subst e1; clear h
      obtain ⟨a, e2, h3⟩ := onR_of h2
      subst e2; clear h2
      obtain ⟨rfl, h⟩ := h3
      obtain ⟨o, t', q1, q2, q3, q4⟩ := hK _ _ _ _ h
      exact ⟨o, t', q1, q2, q3, gd_slen (st := r.map vv) hdg q4⟩
  | baload =>
    simp only [ilenOK, beq_iff_eq] at hl; subst hl
    obtain ⟨j, r, e0, h1⟩ := popI_of h
    subst e0; clear h
    obtain ⟨x, r, e1, h2⟩ := popR_of h1
    subst e1; clear h1
    obtain ⟨a, e2, h3⟩ := onR_of h2
    subst e2; clear h2
    obtain ⟨k1, k2, h⟩ := h3
    obtain ⟨o, t', q1, q2, q3, q4⟩ := hK _ _ _ _ h
    refine ⟨o, t', q1, q2, q3, gd_bald (a := a) (st := r.map vv) k1 k2 hdg ?_⟩
    rw [show hV (tv t) a j.toNatClampNeg = vv (svI (tI t a j.toNatClampNeg)) from tV_of (n := 0) (by rw [k1]; rfl)]
    exact q4
  | iaload =>
    simp only [ilenOK, beq_iff_eq] at hl; subst hl
    cases sc with
    | none =>
      obtain ⟨j, r, e0, h1⟩ := popI_of h
      subst e0; clear h
      obtain ⟨x, r, e1, h2⟩ := popR_of h1
      subst e1; clear h1
      obtain ⟨a, e2, h3⟩ := onR_of h2
      subst e2; clear h2
      obtain ⟨k1, k2, h⟩ := h3
      obtain ⟨o, t', q1, q2, q3, q4⟩ := hK _ _ _ _ h
      refine ⟨o, t', q1, q2, q3, gd_iald (a := a) (st := r.map vv) k1 k2 hdg ?_⟩
      rw [show hV (tv t) a j.toNatClampNeg = vv (svI (tI t a j.toNatClampNeg)) from tV_of (n := 0) (by rw [k1]; rfl)]
      exact q4
    | some s9 =>
      have e9 := hsc s9 rfl
      subst e9
      obtain ⟨j, r, e0, h1⟩ := popI_of h
      subst e0; clear h
      obtain ⟨x, r, e1, h2⟩ := popR_of h1
      subst e1; clear h1
      obtain ⟨a, e2, h3⟩ := onR_of h2
      subst e2; clear h2
      obtain ⟨rfl, k2, h⟩ := h3
      obtain ⟨o, t', q1, q2, q3, q4⟩ := hK _ _ _ _ h
      exact ⟨o, t', q1, q2, q3, gd_sld (st := r.map vv) k2 hdg q4⟩
  | laload =>
    simp only [ilenOK, beq_iff_eq] at hl; subst hl
    obtain ⟨j, r, e0, h1⟩ := popI_of h
    subst e0; clear h
    obtain ⟨x, r, e1, h2⟩ := popR_of h1
    subst e1; clear h1
    obtain ⟨a, e2, h3⟩ := onR_of h2
    subst e2; clear h2
    obtain ⟨k1, k2, h⟩ := h3
    obtain ⟨o, t', q1, q2, q3, q4⟩ := hK _ _ _ _ h
    refine ⟨o, t', q1, q2, q3, gd_lald (a := a) (st := r.map vv) k1 k2 hdg ?_⟩
    rw [show hV (tv t) a j.toNatClampNeg = vv (svJ (tJ t a j.toNatClampNeg)) from tV_of (n := 1) (by rw [k1]; rfl)]
    exact q4
  | aaload =>
    simp only [ilenOK, beq_iff_eq] at hl; subst hl
    obtain ⟨j, r, e0, h1⟩ := popI_of h
    subst e0; clear h
    obtain ⟨x, r, e1, h2⟩ := popR_of h1
    subst e1; clear h1
    obtain ⟨a, e2, h3⟩ := onR_of h2
    subst e2; clear h2
    obtain ⟨k1, k1', k2, h⟩ := h3
    obtain ⟨o, t', q1, q2, q3, q4⟩ := hK _ _ _ _ h
    have hcase : tK t a = 103 ∨ tK t a = 104 ∨ tK t a = 105 := by omega
    refine ⟨o, t', q1, q2, q3, gd_aald (a := a) (t := tK t a - 100) (st := r.map vv) (by show tK t a = _; omega) (by omega) (by rcases hcase with z | z | z <;> rw [z] <;> rfl) k2 hdg ?_⟩
    rw [show hV (tv t) a j.toNatClampNeg = vv (svR (tR t a j.toNatClampNeg)) from tV_of (n := 2) (by rcases hcase with z | z | z <;> rw [z] <;> rfl)]
    exact q4
  | bastore =>
    simp only [ilenOK, beq_iff_eq] at hl; subst hl
    obtain ⟨v, r, e9, h0⟩ := popI_of h
    subst e9; clear h
    obtain ⟨j, r, e0, h1⟩ := popI_of h0
    subst e0; clear h0
    obtain ⟨x, r, e1, h2⟩ := popR_of h1
    subst e1; clear h1
    obtain ⟨a, e2, h3⟩ := onR_of h2
    subst e2; clear h2
    obtain ⟨k1, k2, h⟩ := h3
    obtain ⟨o, t', q1, q2, q3, q4⟩ := hK _ _ _ _ h
    refine ⟨o, t', q1, q2, q3, gd_bast (a := a) (st := r.map vv) k1 k2 hdg ?_⟩
    rw [hSet_sI (by rw [k1]; rfl)]
    exact q4
  | iastore =>
    simp only [ilenOK, beq_iff_eq] at hl; subst hl
    obtain ⟨v, r, e9, h0⟩ := popI_of h
    subst e9; clear h
    obtain ⟨j, r, e0, h1⟩ := popI_of h0
    subst e0; clear h0
    obtain ⟨x, r, e1, h2⟩ := popR_of h1
    subst e1; clear h1
    obtain ⟨a, e2, h3⟩ := onR_of h2
    subst e2; clear h2
    obtain ⟨k1, k2, h⟩ := h3
    obtain ⟨o, t', q1, q2, q3, q4⟩ := hK _ _ _ _ h
    refine ⟨o, t', q1, q2, q3, gd_iast (a := a) (st := r.map vv) k1 k2 hdg ?_⟩
    rw [hSet_sI (by rw [k1]; rfl)]
    exact q4
  | lastore =>
    simp only [ilenOK, beq_iff_eq] at hl; subst hl
    obtain ⟨v, r, e9, h0⟩ := popJ_of h
    subst e9; clear h
    obtain ⟨j, r, e0, h1⟩ := popI_of h0
    subst e0; clear h0
    obtain ⟨x, r, e1, h2⟩ := popR_of h1
    subst e1; clear h1
    obtain ⟨a, e2, h3⟩ := onR_of h2
    subst e2; clear h2
    obtain ⟨k1, k2, h⟩ := h3
    obtain ⟨o, t', q1, q2, q3, q4⟩ := hK _ _ _ _ h
    refine ⟨o, t', q1, q2, q3, gd_last (a := a) (st := r.map vv) k1 k2 hdg ?_⟩
    rw [hSet_sJ (by rw [k1]; rfl)]
    exact q4
  | aastore =>
    simp only [ilenOK, beq_iff_eq] at hl; subst hl
    obtain ⟨v, r, e9, h0⟩ := popR_of h
    subst e9; clear h
    obtain ⟨j, r, e0, h1⟩ := popI_of h0
    subst e0; clear h0
    obtain ⟨x, r, e1, h2⟩ := popR_of h1
    subst e1; clear h1
    obtain ⟨a, e2, h3⟩ := onR_of h2
    subst e2; clear h2
    obtain ⟨k1, k1', k2, k3, h⟩ := h3
    obtain ⟨o, t', q1, q2, q3, q4⟩ := hK _ _ _ _ h
    have hcase : tK t a = 103 ∨ tK t a = 104 ∨ tK t a = 105 := by omega
    have hsl : slN (tK t a) j.toNatClampNeg = 2 := by rcases hcase with z | z | z <;> rw [z] <;> rfl
    rw [← hSet_sR hsl] at q4
    obtain ⟨E, hE⟩ : ∃ E, aT (tK t a - 100) = .object E := by rcases hcase with z | z | z <;> rw [z] <;> exact ⟨_, rfl⟩
    cases v with
    | none => exact ⟨o, t', q1, q2, q3, gd_aastN (a := a) (t := tK t a - 100) (st := r.map vv) (by show tK t a = _; omega) (by omega) hE k2 hdg q4⟩
    | some b =>
      have k3' : okA (tK t a) (tK t b) := k3
      rcases k3' with ⟨z1, z2⟩ | ⟨z1, z2⟩ | ⟨z1, z2⟩
      · rw [z1] at hE; cases hE
        exact ⟨o, t', q1, q2, q3, gd_aast (a := a) (b := b) (t := 4) (ci := 2) (st := r.map vv) z1 (by decide) rfl k2 rfl (by decide) z2 (by decide +kernel) hdg q4⟩
      · rw [z1] at hE; cases hE
        exact ⟨o, t', q1, q2, q3, gd_aast (a := a) (b := b) (t := 5) (ci := 7) (st := r.map vv) z1 (by decide) rfl k2 rfl (by decide) z2 (by decide +kernel) hdg q4⟩
      · rw [z1] at hE; cases hE
        rcases z2 with z2 | z2 | z2 | z2
        · exact ⟨o, t', q1, q2, q3, gd_aast (a := a) (b := b) (t := 3) (ci := 2) (st := r.map vv) z1 (by decide) rfl k2 rfl (by decide) z2 (by decide +kernel) hdg q4⟩
        · exact ⟨o, t', q1, q2, q3, gd_aast (a := a) (b := b) (t := 3) (ci := 8) (st := r.map vv) z1 (by decide) rfl k2 rfl (by decide) z2 (by decide +kernel) hdg q4⟩
        · exact ⟨o, t', q1, q2, q3, gd_aast (a := a) (b := b) (t := 3) (ci := 9) (st := r.map vv) z1 (by decide) rfl k2 rfl (by decide) z2 (by decide +kernel) hdg q4⟩
        · exact ⟨o, t', q1, q2, q3, gd_aast (a := a) (b := b) (t := 3) (ci := 10) (st := r.map vv) z1 (by decide) rfl k2 rfl (by decide) z2 (by decide +kernel) hdg q4⟩
  | newarray at_ =>
    simp only [ilenOK, beq_iff_eq] at hl; subst hl
    obtain ⟨n, r, e0, h1⟩ := popI_of h
    subst e0; clear h
    obtain ⟨k1, k2, k3, h⟩ := gd_of h1
    have k1 : aKd at_ < 3 := by simpa using k1
    obtain ⟨o, t', q1, q2, q3, q4⟩ := hK _ _ _ _ h
    have hat : newarray.typeOf at_ = aT (aKd at_) := by cases at_ <;> first | rfl | (exact absurd k1 (by decide))
    have hw : Cond.arrayClass (aT (aKd at_)) ∈ gW := by cases at_ <;> first | (exact gW_byte) | (exact gW_int) | (exact gW_long) | (exact absurd k1 (by decide))
    refine ⟨o, t', q1, Nat.le_trans (Nat.le_succ _) q2, Nat.le_trans (Nat.le_add_right _ _) q3, gd_newa (st := r.map vv) k1 hat hw k2 k3 hdg q2 q3 ?_⟩
    rw [hNew_tv (fun k => by cases at_ <;> first | rfl | (exact absurd k1 (by decide)))]
    exact q4
  | anewarray idx =>
    simp only [ilenOK, beq_iff_eq] at hl; subst hl
    obtain ⟨n, r, e0, h1⟩ := popI_of h
    subst e0; clear h
    split at h1
    · rename_i kd heq
      obtain ⟨k01, k2, k3, h⟩ := gd_of h1
      rw [Bool.and_eq_true] at k01
      have k0 : 3 ≤ aKo kd := by simpa using k01.1
      have k1 : aKo kd < 6 := by simpa using k01.2
      obtain ⟨o, t', q1, q2, q3, q4⟩ := hK _ _ _ _ h
      obtain ⟨p1, p2⟩ := hP.2.2.1 idx kd heq
      have hkd : kd = 3 ∨ kd = 8 ∨ kd = 300 := by
        unfold aKo at k1
        by_cases z1 : kd = 3
        · exact Or.inl z1
        · by_cases z2 : kd = 8
          · exact Or.inr (Or.inl z2)
          · by_cases z3 : kd = 300
            · exact Or.inr (Or.inr z3)
            · simp [z1, z2, z3] at k1
      refine ⟨o, t', q1, Nat.le_trans (Nat.le_succ _) q2, Nat.le_trans (Nat.le_add_right _ _) q3, ?_⟩
      rw [← hNew_tv (f := fun _ => Value.null) (fun k => by rcases hkd with rfl | rfl | rfl <;> rfl)] at q4
      rcases hkd with rfl | rfl | rfl
      · obtain ⟨-, rr, c1, c2, -⟩ := p1 (by decide)
        have : rr = (RX1, TX1, 11) := Option.some.inj (c1.1.symm.trans rfl)
        subst this
        exact gd_anew (st := r.map vv) (t := 4) (E := "PathHouse$Node") (by decide) rfl (by decide) c2 k2 k3 hdg q2 q3 q4
      · obtain ⟨-, rr, c1, c2, -⟩ := p1 (by decide)
        have : rr = (RX6, TX6, 2) := Option.some.inj (c1.1.symm.trans rfl)
        subst this
        exact gd_anew (st := r.map vv) (t := 5) (E := "PathHouse$Row") (by decide) rfl (by decide) c2 k2 k3 hdg q2 q3 q4
      · exact gd_anew (st := r.map vv) (t := 3) (E := "java/lang/Object") (by decide) rfl (by decide) (p2 rfl) k2 k3 hdg q2 q3 q4
    · exact h1.elim
  | new idx =>
    simp only [ilenOK, beq_iff_eq] at hl; subst hl
    simp only [st1] at h
    split at h
    · rename_i kd heq
      obtain ⟨p1, p2⟩ := hP.2.2.1 idx kd heq
      by_cases hkd : kd < 100
      · rw [if_pos hkd] at h
        obtain ⟨hk1, rr, ⟨c1, c2, c3, c4, c5⟩, w1, w2, w3⟩ := p1 hkd
        obtain ⟨o, t', q1, q2, q3, q4⟩ := hK _ _ _ _ h
        have hkk : kd - 1 + 1 = kd := by omega
        refine ⟨o, t', q1, Nat.le_trans (Nat.le_succ _) q2, Nat.le_trans (Nat.le_add_right _ _) q3, gd_new (ci := kd - 1) (ty := fTy (kd - 1)) (f := fun k => dV (slN kd k)) c1 (by omega) c2 c3 (fun k hk => ?_) w1 w2 w3 hdg q2 q3 ?_⟩
        · rw [dflt_ok (c5 k hk)]
          have : slN kd k = tyN (fTy (kd - 1) k) := by unfold slN; rw [if_pos hkd]
          rw [this]
        · rw [hkk, hNew_tv (fun k => rfl)]
          exact q4
      · rw [if_neg hkd] at h
        obtain ⟨k12, h⟩ := gd_of h
        rw [Bool.and_eq_true] at k12
        have k1 : wgt st ≤ 8 := by simpa using k12.1
        have k2 : X.2.2.2.2 = [] := emp_of k12.2
        split at h
        · rename_i l3 is l4 ic l6 l9 d3 d4 d6 d9
          obtain ⟨e9, sn, text, he9, rfl, htw⟩ := hC.2.2.2.2 pc idx _ kd is l4 ic l6 hi heq hkd d4 d6
          obtain ⟨x3, y3, -⟩ := hC.1 _ _ _ d3
          obtain ⟨x4, y4, -⟩ := hC.1 _ _ _ d4
          obtain ⟨x6, y6, -⟩ := hC.1 _ _ _ d6
          obtain ⟨x9, y9, -⟩ := hC.1 _ _ _ d9
          simp only [ilenOK, beq_iff_eq] at y3 y4 y6 y9
          subst y3 y4 y6 y9
          have hh : M.2.2.2.2.2 = [] := by
            rcases hC.2.2.2.1 with ⟨z1, z2⟩ | ⟨s9, e8, hpc, ct, kd', z1, z2, -⟩
            · exact z1
            · rw [z2] at k2; cases k2
          refine ⟨_, _, h, Nat.le_succ _, Nat.le_add_right _ _, ?_⟩
          have g := gd_throwS (C := C) (M := M) (h0 := tv t0) (h := tv t) (fr := frD (d + 1)) (lo := loD (d + 1)) (lv := lv.map fv) (st := st.map vv) (f := fun k => dV (slN 0 k)) htw (by rw [hh]; intro q hq; cases hq) (by unfold frD; omega) (by unfold loD; omega) (by rw [wgt_cat]; exact k1) hdg x3 x4 x6 x9
          rw [hNew_tv (f := fun k => dV (slN 0 k)) (fun k => rfl)] at g
          exact g
        · exact h.elim
    · exact h.elim
  | checkcast idx =>
    simp only [ilenOK, beq_iff_eq] at hl; subst hl
    simp only [st1] at h
    split at h
    · rename_i kd heq
      obtain ⟨hkd0, h⟩ := gd_of h
      have hkd : kd = 3 ∨ kd = 9 ∨ kd = 10 ∨ kd = 11 := by simp at hkd0; omega
      obtain ⟨x, r, e1, h2⟩ := popR_of h
      subst e1; clear h
      cases x with
      | none => exact wg_step (st' := svR none :: r) (fun hx hb _ k => lv_castN hx hb hdg k) (hK _ _ _ _ h2)
      | some a =>
        obtain ⟨ha, h⟩ := h2
        obtain ⟨o, t', q1, q2, q3, q4⟩ := hK _ _ _ _ h
        refine ⟨o, t', q1, q2, q3, ?_⟩
        obtain ⟨p1, -⟩ := hP.2.2.1 idx kd heq
        rcases hkd with rfl | rfl | rfl | rfl
        · obtain ⟨-, rr, c1, c2, -⟩ := p1 (by decide)
          have : rr = (RX1, TX1, 11) := Option.some.inj (c1.1.symm.trans rfl)
          subst this
          exact gd_cast (ci := 2) (st := r.map vv) rfl (by decide) ha c2 (by decide +kernel) hdg q4
        · obtain ⟨-, rr, c1, c2, -⟩ := p1 (by decide)
          have : rr = (RX7, TX7, 2) := Option.some.inj (c1.1.symm.trans rfl)
          subst this
          exact gd_cast (ci := 8) (st := r.map vv) rfl (by decide) ha c2 (by decide +kernel) hdg q4
        · obtain ⟨-, rr, c1, c2, -⟩ := p1 (by decide)
          have : rr = (RX8, TX8, 8) := Option.some.inj (c1.1.symm.trans rfl)
          subst this
          exact gd_cast (ci := 9) (st := r.map vv) rfl (by decide) ha c2 (by decide +kernel) hdg q4
        · obtain ⟨-, rr, c1, c2, -⟩ := p1 (by decide)
          have : rr = (RX9, TX9, 9) := Option.some.inj (c1.1.symm.trans rfl)
          subst this
          exact gd_cast (ci := 10) (st := r.map vv) rfl (by decide) ha c2 (by decide +kernel) hdg q4
    · exact h.elim
  | athrow =>
    simp only [ilenOK, beq_iff_eq] at hl; subst hl
    obtain ⟨x, r, e1, h2⟩ := popR_of h
    subst e1; clear h
    obtain ⟨a, e2, h3⟩ := onR_of h2
    subst e2; clear h2
    obtain ⟨k1, h⟩ := h3
    obtain ⟨o, t', q1, q2, q3, q4⟩ := exc_sound (st := r.map vv) hC hK h
    exact ⟨o, t', q1, q2, q3, gd_athrow k1 hdg q4⟩
  | ireturn =>
    simp only [ilenOK, beq_iff_eq] at hl; subst hl
    obtain ⟨x, r, e1, h2⟩ := popI_of h
    subst e1; clear h
    obtain ⟨g1, h⟩ := gd_of h2
    cases emp_of g1
    split at h
    · rename_i ty heq
      obtain ⟨hok, h⟩ := okJ_of h
      refine ⟨_, t, h, Nat.le_refl _, Nat.le_refl _, gd_iret (ty := ty) (hC.2.1.symm.trans heq) ?_ hdg⟩
      cases ty <;> first | (exact hok.elim) | rfl | (rcases hok with rfl | rfl <;> decide)
    · exact h.elim
  | lreturn =>
    simp only [ilenOK, beq_iff_eq] at hl; subst hl
    obtain ⟨x, r, e1, h2⟩ := popJ_of h
    subst e1; clear h
    obtain ⟨g1, h⟩ := gd_of h2
    cases emp_of g1
    split at h
    · rename_i heq
      exact ⟨_, t, h, Nat.le_refl _, Nat.le_refl _, gd_lret (hC.2.1.symm.trans heq) hdg⟩
    · exact h.elim
  | areturn =>
    simp only [ilenOK, beq_iff_eq] at hl; subst hl
    obtain ⟨x, r, e1, h2⟩ := popR_of h
    subst e1; clear h
    obtain ⟨g1, h⟩ := gd_of h2
    cases emp_of g1
    have hv : vv (svR x) = .null ∨ ∃ a, vv (svR x) = .ref a := by
      cases x with
      | none => exact Or.inl rfl
      | some a => exact Or.inr ⟨a, rfl⟩
    split at h
    · rename_i n heq
      exact ⟨_, t, h, Nat.le_refl _, Nat.le_refl _, gd_aret (hC.2.1.symm.trans heq) (Or.inl ⟨n, rfl⟩) hv hdg⟩
    · rename_i n heq
      exact ⟨_, t, h, Nat.le_refl _, Nat.le_refl _, gd_aret (hC.2.1.symm.trans heq) (Or.inr ⟨n, rfl⟩) hv hdg⟩
    · exact h.elim
  | return_ =>
    simp only [ilenOK, beq_iff_eq] at hl; subst hl
    obtain ⟨g1, h2⟩ := gd_of h
    cases emp_of g1
    clear h
    split at h2
    · rename_i heq
      exact ⟨_, t, h2, Nat.le_refl _, Nat.le_refl _, gd_vret (hC.2.1.symm.trans heq) hdg⟩
    · exact h2.elim
  | invokevirtual idx =>
    simp only [ilenOK, beq_iff_eq] at hl; subst hl
    simp only [st1] at h
    split at h
    · rename_i j heq
      split at h
      · rename_i na ci rk heq2
        obtain ⟨as, r, ha, e1, h2⟩ := popN_of na h
        subst e1; clear h
        obtain ⟨x, r, e1, h3⟩ := popR_of h2
        subst e1; clear h2
        obtain ⟨b, e2, h4⟩ := onR_of h3
        subst e2; clear h3
        obtain ⟨g1, hkb, q, hq, o1, t1, hpost, hn1, hu1, hcm⟩ := gd_of h4
        rw [Bool.and_eq_true] at g1
        have hci : ci < 99 := by simpa using g1.1
        have hw : wgt r ≤ 8 := by simpa using g1.2
        rcases hP.2.1 idx j heq with ⟨rfl, hno, -⟩ | ⟨-, q9, na9, ci9, rk9, m1, m2, ⟨e1, e2, e3, e4, e5, e6, e7⟩, ⟨ko, -, -⟩, hlk⟩
        · rw [hno] at heq2; cases heq2
        · cases Option.some.inj (m1.symm.trans hq)
          cases Option.some.inj (m2.symm.trans heq2)
          obtain ⟨i1, rr, i2, i3⟩ := ko hci
          obtain ⟨o, t', z1, z2, z3, z4⟩ := aft_sound (d := d + 1) hC hK hpost
          refine ⟨o, t', z1, Nat.le_trans hn1 z2, Nat.le_trans hu1 z3, ?_⟩
          have g := gd_callV (C := C) (M := M) (fr := frD (d + 1)) (lo := loD (d + 1)) (h0 := tv t0) (o' := oo o) (h' := tv t') (lv := lv.map fv) (rest := r.map vv) (pc := pc) (idx := idx) (b := b) (as := as.map vv) hcm e1 e3 e4 (by unfold frD; omega) (by unfold loD; omega) hn1 hu1 z2 z3 i2 hci hkb hlk i1 i3 e5 (fun sig hsig => by rw [List.length_map, ha]; exact e6 sig hsig) hdg (by rw [wgt_cat]; exact hw) z4
          rw [← List.map_reverse] at g
          simpa [List.map_append, vv, svR, va_rf] using g
      · exact h.elim
    · exact h.elim
  | invokestatic idx =>
    simp only [ilenOK, beq_iff_eq] at hl; subst hl
    simp only [st1] at h
    split at h
    · rename_i j heq
      split at h
      · rename_i na ci rk heq2
        obtain ⟨as, r, ha, e1, h2⟩ := popN_of na h
        subst e1; clear h
        obtain ⟨g1, q, hq, o1, t1, hpost, hn1, hu1, hcm⟩ := gd_of h2
        rw [Bool.and_eq_true] at g1
        have hci : ci = 1000 := by simpa using g1.1
        have hw : wgt r ≤ 8 := by simpa using g1.2
        rcases hP.2.1 idx j heq with ⟨rfl, hno, -⟩ | ⟨-, q9, na9, ci9, rk9, m1, m2, ⟨e1, e2, e3, e4, e5, e6, e7⟩, ⟨-, ko, -⟩, hlk⟩
        · rw [hno] at heq2; cases heq2
        · cases Option.some.inj (m1.symm.trans hq)
          cases Option.some.inj (m2.symm.trans heq2)
          have i1 := ko hci
          obtain ⟨o, t', z1, z2, z3, z4⟩ := aft_sound (d := d + 1) hC hK hpost
          refine ⟨o, t', z1, Nat.le_trans hn1 z2, Nat.le_trans hu1 z3, ?_⟩
          have g := gd_callS (C := C) (M := M) (fr := frD (d + 1)) (lo := loD (d + 1)) (h0 := tv t0) (o' := oo o) (h' := tv t') (lv := lv.map fv) (rest := r.map vv) (pc := pc) (idx := idx) (as := as.map vv) hcm e1 e2 e3 e4 (by unfold frD; omega) (by unfold loD; omega) hn1 hu1 z2 z3 hlk i1 e5 (fun sig hsig => by rw [List.length_map, ha]; exact e6 sig hsig) hdg (by rw [wgt_cat]; exact hw) z4
          rw [← List.map_reverse] at g
          simpa [List.map_append, vv, svR, va_rf] using g
      · exact h.elim
    · exact h.elim
  | invokespecial idx =>
    simp only [ilenOK, beq_iff_eq] at hl; subst hl
    simp only [st1] at h
    split at h
    · rename_i j heq
      rcases hP.2.1 idx j heq with ⟨rfl, -, w1, w2, w3⟩ | ⟨hj, q9, na9, ci9, rk9, m1, m2, ⟨e1, e2, e3, e4, e5, e6, e7⟩, ⟨-, -, ko⟩, hlk⟩
      · rw [if_pos rfl] at h
        obtain ⟨x, r, e1, h2⟩ := popR_of h
        subst e1; clear h
        obtain ⟨b, e2, h⟩ := onR_of h2
        subst e2
        obtain ⟨g1, h⟩ := gd_of h
        have hw : wgt r ≤ 8 := by simpa using g1
        obtain ⟨o, t', q1, q2, q3, q4⟩ := hK _ _ _ _ h
        exact ⟨o, t', q1, q2, q3, gd_objInit (b := b) w1 w2 w3 (by unfold frD; omega) (by unfold loD; omega) (by rw [wgt_cat]; exact hw) hdg q4⟩
      · rw [if_neg hj, m2] at h
        obtain ⟨as, r, ha, e1', h2⟩ := popN_of na9 h
        subst e1'; clear h
        obtain ⟨x, r, e1', h3⟩ := popR_of h2
        subst e1'; clear h2
        obtain ⟨b, e2', h4⟩ := onR_of h3
        subst e2'; clear h3
        obtain ⟨g1, q, hq, o1, t1, hpost, hn1, hu1, hcm⟩ := gd_of h4
        rw [Bool.and_eq_true] at g1
        have hci : ci9 = 2000 := by simpa using g1.1
        have hw : wgt r ≤ 8 := by simpa using g1.2
        cases Option.some.inj (m1.symm.trans hq)
        obtain ⟨i1, i2, i3⟩ := ko hci
        rw [i3] at hcm e3
        obtain ⟨o, t', z1, z2, z3, z4⟩ := aft_sound (d := d + 1) hC hK hpost
        refine ⟨o, t', z1, Nat.le_trans hn1 z2, Nat.le_trans hu1 z3, ?_⟩
        have g := gd_callI (C := C) (M := M) (fr := frD (d + 1)) (lo := loD (d + 1)) (h0 := tv t0) (o' := oo o) (h' := tv t') (lv := lv.map fv) (rest := r.map vv) (pc := pc) (idx := idx) (b := b) (as := as.map vv) hcm e3 e4 (by unfold frD; omega) (by unfold loD; omega) hn1 hu1 z2 z3 hlk i2 i1 e5 (fun sig hsig => by rw [List.length_map, ha]; exact e6 sig hsig) hdg (by rw [wgt_cat]; exact hw) z4
        rw [← List.map_reverse] at g
        simpa [List.map_append, vv, svR, va_rf] using g
    · exact h.elim
  | _ => exact h.elim
theorem wpc_sound (hP : PoolOK M.1 X.2.1 mtab mt) (hC : CodeOK M X) (hsc : ∀ s9, sc = some s9 → s9 = cX C) {cut : List Nat} {Kc : Nat → LV → List SV → Ht → Prop} (hKc : ∀ pc lv st t, pc ∈ cut → Kc pc lv st t → WG C M (d + 1) t0 Q pc lv st t) :
    ∀ (n pc : Nat) (lv : LV) (st : List SV) (t : Ht), wpc (CalG C mtab d) mt (cS C) (cG C) sc X Q cut Kc n pc lv st t → WG C M (d + 1) t0 Q pc lv st t
  | 0, _, _, _, _, h => h.elim
  | n + 1, pc, lv, st, t, h => by
    unfold wpc at h
    split at h
    · rename_i i len heq
      refine st1_sound hP hC (fun pc' lv' st' t' h' => ?_) heq hsc h
      by_cases hm : pc' ∈ cut
      · rw [if_pos hm] at h'; exact hKc _ _ _ _ hm h'
      · rw [if_neg hm] at h'; exact wpc_sound hP hC hsc hKc n pc' lv' st' t' h'
    · exact h.elim
end S2
end
section
/-! the methods, by number -/
theorem tw0 {w : Cond} (h : w ∈ tables_1) : w ∈ lw_tbl := List.mem_append_right _ h
theorem tw1 {w : Cond} {i : Nat} (h : tables_1_1[i]? = some w) : w ∈ lw_tbl := tw0 (List.mem_append_left _ (List.mem_of_getElem? h))
theorem tw2 {w : Cond} {i : Nat} (h : tables_1_2[i]? = some w) : w ∈ lw_tbl := tw0 (List.mem_append_right _ (List.mem_append_left _ (List.mem_of_getElem? h)))
theorem tw3 {w : Cond} {i : Nat} (h : tables_1_3[i]? = some w) : w ∈ lw_tbl := tw0 (List.mem_append_right _ (List.mem_append_right _ (List.mem_append_left _ (List.mem_of_getElem? h))))
theorem tw4 {w : Cond} {i : Nat} (h : tables_1_4[i]? = some w) : w ∈ lw_tbl := tw0 (List.mem_append_right _ (List.mem_append_right _ (List.mem_append_right _ (List.mem_append_left _ (List.mem_of_getElem? h)))))
theorem tw5 {w : Cond} {i : Nat} (h : tables_1_5[i]? = some w) : w ∈ lw_tbl := tw0 (List.mem_append_right _ (List.mem_append_right _ (List.mem_append_right _ (List.mem_append_right _ (List.mem_append_left _ (List.mem_of_getElem? h))))))
theorem tw6 {w : Cond} {i : Nat} (h : tables_1_6[i]? = some w) : w ∈ lw_tbl := tw0 (List.mem_append_right _ (List.mem_append_right _ (List.mem_append_right _ (List.mem_append_right _ (List.mem_append_right _ (List.mem_append_left _ (List.mem_of_getElem? h)))))))
theorem tw7 {w : Cond} {i : Nat} (h : tables_1_7[i]? = some w) : w ∈ lw_tbl := tw0 (List.mem_append_right _ (List.mem_append_right _ (List.mem_append_right _ (List.mem_append_right _ (List.mem_append_right _ (List.mem_append_right _ (List.mem_append_left _ (List.mem_of_getElem? h))))))))
theorem tw8 {w : Cond} {i : Nat} (h : tables_1_8[i]? = some w) : w ∈ lw_tbl := tw0 (List.mem_append_right _ (List.mem_append_right _ (List.mem_append_right _ (List.mem_append_right _ (List.mem_append_right _ (List.mem_append_right _ (List.mem_append_right _ (List.mem_append_left _ (List.mem_of_getElem? h)))))))))
theorem tw9 {w : Cond} {i : Nat} (h : tables_1_9[i]? = some w) : w ∈ lw_tbl := tw0 (List.mem_append_right _ (List.mem_append_right _ (List.mem_append_right _ (List.mem_append_right _ (List.mem_append_right _ (List.mem_append_right _ (List.mem_append_right _ (List.mem_append_right _ (List.mem_of_getElem? h)))))))))
theorem pw1 {y : MethodName} {n i : Nat} (h : lw_privs_1[i]? = some (y, n)) : Cond.selects y.cls y y ∈ lw_tbl := List.mem_append_left _ (List.mem_map.mpr ⟨(y, n), (List.mem_append_left _ (List.mem_of_getElem? h)), rfl⟩)
theorem pw2 {y : MethodName} {n i : Nat} (h : lw_privs_2[i]? = some (y, n)) : Cond.selects y.cls y y ∈ lw_tbl := List.mem_append_left _ (List.mem_map.mpr ⟨(y, n), (List.mem_append_right _ (List.mem_append_left _ (List.mem_of_getElem? h))), rfl⟩)
theorem pw3 {y : MethodName} {n i : Nat} (h : lw_privs_3[i]? = some (y, n)) : Cond.selects y.cls y y ∈ lw_tbl := List.mem_append_left _ (List.mem_map.mpr ⟨(y, n), (List.mem_append_right _ (List.mem_append_right _ (List.mem_append_left _ (List.mem_of_getElem? h)))), rfl⟩)
theorem pw4 {y : MethodName} {n i : Nat} (h : lw_privs_4[i]? = some (y, n)) : Cond.selects y.cls y y ∈ lw_tbl := List.mem_append_left _ (List.mem_map.mpr ⟨(y, n), (List.mem_append_right _ (List.mem_append_right _ (List.mem_append_right _ (List.mem_append_left _ (List.mem_of_getElem? h))))), rfl⟩)
theorem pw5 {y : MethodName} {n i : Nat} (h : lw_privs_5[i]? = some (y, n)) : Cond.selects y.cls y y ∈ lw_tbl := List.mem_append_left _ (List.mem_map.mpr ⟨(y, n), (List.mem_append_right _ (List.mem_append_right _ (List.mem_append_right _ (List.mem_append_right _ (List.mem_append_left _ (List.mem_of_getElem? h)))))), rfl⟩)
theorem pw6 {y : MethodName} {n i : Nat} (h : lw_privs_6[i]? = some (y, n)) : Cond.selects y.cls y y ∈ lw_tbl := List.mem_append_left _ (List.mem_map.mpr ⟨(y, n), (List.mem_append_right _ (List.mem_append_right _ (List.mem_append_right _ (List.mem_append_right _ (List.mem_append_right _ (List.mem_append_left _ (List.mem_of_getElem? h))))))), rfl⟩)
theorem pw7 {y : MethodName} {n i : Nat} (h : lw_privs_7[i]? = some (y, n)) : Cond.selects y.cls y y ∈ lw_tbl := List.mem_append_left _ (List.mem_map.mpr ⟨(y, n), (List.mem_append_right _ (List.mem_append_right _ (List.mem_append_right _ (List.mem_append_right _ (List.mem_append_right _ (List.mem_append_right _ (List.mem_append_left _ (List.mem_of_getElem? h)))))))), rfl⟩)
theorem pw8 {y : MethodName} {n i : Nat} (h : lw_privs_8[i]? = some (y, n)) : Cond.selects y.cls y y ∈ lw_tbl := List.mem_append_left _ (List.mem_map.mpr ⟨(y, n), (List.mem_append_right _ (List.mem_append_right _ (List.mem_append_right _ (List.mem_append_right _ (List.mem_append_right _ (List.mem_append_right _ (List.mem_append_right _ (List.mem_append_left _ (List.mem_of_getElem? h))))))))), rfl⟩)
theorem pw9 {y : MethodName} {n i : Nat} (h : lw_privs_9[i]? = some (y, n)) : Cond.selects y.cls y y ∈ lw_tbl := List.mem_append_left _ (List.mem_map.mpr ⟨(y, n), (List.mem_append_right _ (List.mem_append_right _ (List.mem_append_right _ (List.mem_append_right _ (List.mem_append_right _ (List.mem_append_right _ (List.mem_append_right _ (List.mem_append_right _ (List.mem_append_left _ (List.mem_of_getElem? h)))))))))), rfl⟩)
theorem pw10 {y : MethodName} {n i : Nat} (h : lw_privs_10[i]? = some (y, n)) : Cond.selects y.cls y y ∈ lw_tbl := List.mem_append_left _ (List.mem_map.mpr ⟨(y, n), (List.mem_append_right _ (List.mem_append_right _ (List.mem_append_right _ (List.mem_append_right _ (List.mem_append_right _ (List.mem_append_right _ (List.mem_append_right _ (List.mem_append_right _ (List.mem_append_right _ (List.mem_append_left _ (List.mem_of_getElem? h))))))))))), rfl⟩)
theorem pw11 {y : MethodName} {n i : Nat} (h : lw_privs_11[i]? = some (y, n)) : Cond.selects y.cls y y ∈ lw_tbl := List.mem_append_left _ (List.mem_map.mpr ⟨(y, n), (List.mem_append_right _ (List.mem_append_right _ (List.mem_append_right _ (List.mem_append_right _ (List.mem_append_right _ (List.mem_append_right _ (List.mem_append_right _ (List.mem_append_right _ (List.mem_append_right _ (List.mem_append_right _ (List.mem_append_left _ (List.mem_of_getElem? h)))))))))))), rfl⟩)
theorem pw12 {y : MethodName} {n i : Nat} (h : lw_privs_12[i]? = some (y, n)) : Cond.selects y.cls y y ∈ lw_tbl := List.mem_append_left _ (List.mem_map.mpr ⟨(y, n), (List.mem_append_right _ (List.mem_append_right _ (List.mem_append_right _ (List.mem_append_right _ (List.mem_append_right _ (List.mem_append_right _ (List.mem_append_right _ (List.mem_append_right _ (List.mem_append_right _ (List.mem_append_right _ (List.mem_append_right _ (List.mem_of_getElem? h)))))))))))), rfl⟩)
theorem gw {w : Cond} (h : w ∈ lw_tbl) (hg : goodWord w = true) : w ∈ gW := List.mem_filter.mpr ⟨h, hg⟩
theorem nw {w : Cond} (h : w ∈ lw_tbl) (hg : isNest w = true) : w ∈ nW := List.mem_filter.mpr ⟨h, hg⟩
theorem len_of {d : String} {na : Nat} (h : (parseMethodDescriptor d).map (fun s => s.parameters.length) = some na) : ∀ sig, parseMethodDescriptor d = some sig → na = sig.parameters.length := fun sig e => by rw [e] at h; exact (Option.some.inj h).symm
theorem eokC {y : MethodName} {bytes : ByteArray} {maxL na : Nat} {ret : Option FieldType} (h1 : Cond.code y bytes maxL ret ∈ lw_tbl) (h2 : Cond.initialized y.cls ∈ lw_tbl) (h3 : y.cls ≠ "java/lang/invoke/MethodHandle" ∧ y.cls ≠ "java/lang/invoke/VarHandle") (h4 : (parseMethodDescriptor y.desc).map (fun s => s.parameters.length) = some na) (h5 : maxL ≤ 26) : EOK (y, .code y bytes maxL ret, bytes, maxL, ret, []) na :=
  ⟨xb_is_code, fun A s h => Cond.code_named h, gw h1 rfl, gw h2 rfl, h3, len_of h4, h5⟩
theorem eokW {y : MethodName} {bytes : ByteArray} {maxL na : Nat} {ret : Option FieldType} {hh : List (Nat × Nat × Nat × Nat)} (h1 : Cond.codeWith y bytes maxL ret hh ∈ lw_tbl) (h2 : Cond.initialized y.cls ∈ lw_tbl) (h3 : y.cls ≠ "java/lang/invoke/MethodHandle" ∧ y.cls ≠ "java/lang/invoke/VarHandle") (h4 : (parseMethodDescriptor y.desc).map (fun s => s.parameters.length) = some na) (h5 : maxL ≤ 26) : EOK (y, .codeWith y bytes maxL ret hh, bytes, maxL, ret, hh) na :=
  ⟨xb_is_codeWith, fun A s h => by obtain ⟨m9, _, _, hn9, _⟩ := Cond.codeWith_spec h; exact ⟨m9, hn9⟩, gw h1 rfl, gw h2 rfl, h3, len_of h4, h5⟩
theorem kokV {q : ME} {ci : Nat} {r : vw_C} (hci : ci < 99) (h1 : Cond.instanceMethod q.1 ∈ lw_tbl) (hr : vwCl[ci]? = some r) (h2 : Cond.selects r.1 q.1 q.1 ∈ lw_tbl) : kindOK q ci :=
  ⟨fun _ => ⟨gw h1 rfl, r, hr, gw h2 rfl⟩, fun e => by omega, fun e => by omega⟩
theorem kokS {q : ME} (h1 : Cond.static q.1 ∈ lw_tbl) : kindOK q 1000 := ⟨fun e => by omega, fun _ => gw h1 rfl, fun e => by omega⟩
theorem kokI {q : ME} (h1 : Cond.instanceMethod q.1 ∈ lw_tbl) (h2 : q.1.name = "<init>") (h3 : q.2.1 = .code q.1 q.2.2.1 q.2.2.2.1 none) : kindOK q 2000 := ⟨fun e => by omega, fun e => by omega, fun _ => ⟨gw h1 rfl, h2, h3⟩⟩
theorem kokN {q : ME} : kindOK q 3000 := ⟨fun e => by omega, fun e => by omega, fun e => by omega⟩
abbrev cT_rt : ByteArray := prog_25_method_5_code
def yT_rt : MethodName := ⟨"java/lang/RuntimeException", "<init>", "(Ljava/lang/String;Ljava/lang/Throwable;ZZ)V"⟩
abbrev cT_ex : ByteArray := prog_20_method_5_code
def yT_ex : MethodName := ⟨"java/lang/Exception", "<init>", "(Ljava/lang/String;Ljava/lang/Throwable;ZZ)V"⟩
abbrev cT_th : ByteArray := prog_30_method_5_code
def yT_th : MethodName := ⟨"java/lang/Throwable", "<init>", "(Ljava/lang/String;Ljava/lang/Throwable;ZZ)V"⟩
def mE0 : ME := (yX0_init, .code yX0_init cX0_init 1 none, cX0_init, 1, none, [])
theorem cne0 : ("PathHouse$Finder" : String) ≠ "java/lang/invoke/MethodHandle" ∧ ("PathHouse$Finder" : String) ≠ "java/lang/invoke/VarHandle" := ⟨by decide, by decide⟩
theorem dsc0 : (parseMethodDescriptor "()V").map (fun s => s.parameters.length) = some 0 := by decide +kernel
theorem mK0 : EOK mE0 0 ∧ kindOK mE0 2000 := ⟨eokC (tw1 (i := 117) rfl) (tw1 (i := 5) rfl) cne0 dsc0 (by decide), kokI (tw1 (i := 116) rfl) rfl rfl⟩
def mE1 : ME := (yX0_forget, .code yX0_forget cX0_forget 1 none, cX0_forget, 1, none, [])
theorem mK1 : EOK mE1 0 ∧ kindOK mE1 1 := ⟨eokC (tw3 (i := 174) rfl) (tw1 (i := 5) rfl) cne0 dsc0 (by decide), kokV (by decide) (tw3 (i := 173) rfl) rfl (pw3 (i := 0) rfl)⟩
def mE2 : ME := (yX0_result, .code yX0_result cX0_result 2 (some (FieldType.object "PathHouse$Node")), cX0_result, 2, (some (FieldType.object "PathHouse$Node")), [])
theorem dsc1 : (parseMethodDescriptor "(I)LPathHouse$Node;").map (fun s => s.parameters.length) = some 1 := by decide +kernel
theorem mK2 : EOK mE2 1 ∧ kindOK mE2 1 := ⟨eokC (tw5 (i := 204) rfl) (tw1 (i := 5) rfl) cne0 dsc1 (by decide), kokV (by decide) (tw5 (i := 203) rfl) rfl (pw7 (i := 2) rfl)⟩
def mE3 : ME := (yX0_results, .code yX0_results cX0_results 1 (some FieldType.int), cX0_results, 1, (some FieldType.int), [])
theorem dsc2 : (parseMethodDescriptor "()I").map (fun s => s.parameters.length) = some 0 := by decide +kernel
theorem mK3 : EOK mE3 0 ∧ kindOK mE3 1 := ⟨eokC (tw5 (i := 196) rfl) (tw1 (i := 5) rfl) cne0 dsc2 (by decide), kokV (by decide) (tw5 (i := 195) rfl) rfl (pw7 (i := 1) rfl)⟩
def mE4 : ME := (yX0_run, .codeWith yX0_run cX0_run 4 (some FieldType.int) [(15, 26, 29, 40)], cX0_run, 4, (some FieldType.int), [(15, 26, 29, 40)])
theorem dsc3 : (parseMethodDescriptor "(LPathHouse$Path;LPathHouse$Node;)I").map (fun s => s.parameters.length) = some 2 := by decide +kernel
theorem mK4 : EOK mE4 2 ∧ kindOK mE4 1 := ⟨eokW (tw5 (i := 37) rfl) (tw1 (i := 5) rfl) cne0 dsc3 (by decide), kokV (by decide) (tw5 (i := 36) rfl) rfl (pw5 (i := 9) rfl)⟩
def mE5 : ME := (yX0_stop, .code yX0_stop cX0_stop 2 none, cX0_stop, 2, none, [])
theorem dsc4 : (parseMethodDescriptor "(I)V").map (fun s => s.parameters.length) = some 1 := by decide +kernel
theorem mK5 : EOK mE5 1 ∧ kindOK mE5 1 := ⟨eokC (tw5 (i := 50) rfl) (tw1 (i := 5) rfl) cne0 dsc4 (by decide), kokV (by decide) (tw5 (i := 49) rfl) rfl (pw5 (i := 12) rfl)⟩
def mE6 : ME := (yX0_look, .code yX0_look cX0_look 1 none, cX0_look, 1, none, [])
theorem mK6 : EOK mE6 0 ∧ kindOK mE6 1 := ⟨eokC (tw5 (i := 107) rfl) (tw1 (i := 5) rfl) cne0 dsc0 (by decide), kokV (by decide) (tw5 (i := 106) rfl) rfl (pw6 (i := 2) rfl)⟩
def mE7 : ME := (yX0_put, .code yX0_put cX0_put 3 none, cX0_put, 3, none, [])
theorem dsc5 : (parseMethodDescriptor "(LPathHouse$Node;LPathHouse$Row;)V").map (fun s => s.parameters.length) = some 2 := by decide +kernel
theorem mK7 : EOK mE7 2 ∧ kindOK mE7 1 := ⟨eokC (tw5 (i := 84) rfl) (tw1 (i := 5) rfl) cne0 dsc5 (by decide), kokV (by decide) (tw5 (i := 83) rfl) rfl (pw5 (i := 13) rfl)⟩
def mE8 : ME := (yX0_emptyRow, .code yX0_emptyRow cX0_emptyRow 2 (some (FieldType.object "PathHouse$Row")), cX0_emptyRow, 2, (some (FieldType.object "PathHouse$Row")), [])
theorem dsc6 : (parseMethodDescriptor "(I)LPathHouse$Row;").map (fun s => s.parameters.length) = some 1 := by decide +kernel
theorem mK8 : EOK mE8 1 ∧ kindOK mE8 1 := ⟨eokC (tw5 (i := 46) rfl) (tw1 (i := 5) rfl) cne0 dsc6 (by decide), kokV (by decide) (tw5 (i := 45) rfl) rfl (pw5 (i := 11) rfl)⟩
def mE9 : ME := (yX0_select, .code yX0_select cX0_select 9 (some (FieldType.object "PathHouse$Row")), cX0_select, 9, (some (FieldType.object "PathHouse$Row")), [])
theorem dsc7 : (parseMethodDescriptor "(LPathHouse$Path;LPathHouse$Node;I)LPathHouse$Row;").map (fun s => s.parameters.length) = some 3 := by decide +kernel
theorem mK9 : EOK mE9 3 ∧ kindOK mE9 1 := ⟨eokC (tw5 (i := 42) rfl) (tw1 (i := 5) rfl) cne0 dsc7 (by decide), kokV (by decide) (tw5 (i := 41) rfl) rfl (pw5 (i := 10) rfl)⟩
def mE10 : ME := (yX0_walk, .code yX0_walk cX0_walk 6 none, cX0_walk, 6, none, [])
theorem dsc8 : (parseMethodDescriptor "(LPathHouse$Segment;LPathHouse$Node;LPathHouse$Row;I)V").map (fun s => s.parameters.length) = some 4 := by decide +kernel
theorem mK10 : EOK mE10 4 ∧ kindOK mE10 1 := ⟨eokC (tw5 (i := 99) rfl) (tw1 (i := 5) rfl) cne0 dsc8 (by decide), kokV (by decide) (tw5 (i := 98) rfl) rfl (pw6 (i := 0) rfl)⟩
def mE11 : ME := (yX0_ask, .code yX0_ask cX0_ask 6 none, cX0_ask, 6, none, [])
theorem mK11 : EOK mE11 4 ∧ kindOK mE11 1 := ⟨eokC (tw5 (i := 103) rfl) (tw1 (i := 5) rfl) cne0 dsc8 (by decide), kokV (by decide) (tw5 (i := 102) rfl) rfl (pw6 (i := 1) rfl)⟩
def mE12 : ME := (yX0_pick, .code yX0_pick cX0_pick 5 none, cX0_pick, 5, none, [])
theorem dsc9 : (parseMethodDescriptor "(LPathHouse$Selector;LPathHouse$Node;LPathHouse$Row;I)V").map (fun s => s.parameters.length) = some 4 := by decide +kernel
theorem mK12 : EOK mE12 4 ∧ kindOK mE12 1 := ⟨eokC (tw5 (i := 113) rfl) (tw1 (i := 5) rfl) cne0 dsc9 (by decide), kokV (by decide) (tw5 (i := 112) rfl) rfl (pw6 (i := 3) rfl)⟩
def mE13 : ME := (yX0_pickAll, .code yX0_pickAll cX0_pickAll 4 none, cX0_pickAll, 4, none, [])
theorem mK13 : EOK mE13 2 ∧ kindOK mE13 1 := ⟨eokC (tw5 (i := 118) rfl) (tw1 (i := 5) rfl) cne0 dsc5 (by decide), kokV (by decide) (tw5 (i := 117) rfl) rfl (pw6 (i := 4) rfl)⟩
def mE14 : ME := (yX0_pickTrue, .code yX0_pickTrue cX0_pickTrue 6 none, cX0_pickTrue, 6, none, [])
theorem dsc10 : (parseMethodDescriptor "(LPathHouse$Term;LPathHouse$Node;LPathHouse$Row;I)V").map (fun s => s.parameters.length) = some 4 := by decide +kernel
theorem mK14 : EOK mE14 4 ∧ kindOK mE14 1 := ⟨eokC (tw5 (i := 148) rfl) (tw1 (i := 5) rfl) cne0 dsc10 (by decide), kokV (by decide) (tw5 (i := 147) rfl) rfl (pw6 (i := 9) rfl)⟩
def mE15 : ME := (yX0_pickSlice, .code yX0_pickSlice cX0_pickSlice 9 none, cX0_pickSlice, 9, none, [])
theorem dsc11 : (parseMethodDescriptor "(LPathHouse$Selector;LPathHouse$Node;LPathHouse$Row;)V").map (fun s => s.parameters.length) = some 3 := by decide +kernel
theorem mK15 : EOK mE15 3 ∧ kindOK mE15 1 := ⟨eokC (tw5 (i := 136) rfl) (tw1 (i := 5) rfl) cne0 dsc11 (by decide), kokV (by decide) (tw5 (i := 135) rfl) rfl (pw6 (i := 8) rfl)⟩
def mE16 : ME := (yX0_bounded, .code yX0_bounded cX0_bounded 9 (some FieldType.long), cX0_bounded, 9, (some FieldType.long), [])
theorem dsc12 : (parseMethodDescriptor "(JIJJ)J").map (fun s => s.parameters.length) = some 4 := by decide +kernel
theorem mK16 : EOK mE16 4 ∧ kindOK mE16 1000 := ⟨eokC (tw5 (i := 139) rfl) (tw1 (i := 5) rfl) cne0 dsc12 (by decide), kokS (tw5 (i := 138) rfl)⟩
def mE17 : ME := (yX0_holds, .code yX0_holds cX0_holds 7 (some FieldType.boolean), cX0_holds, 7, (some FieldType.boolean), [])
theorem dsc13 : (parseMethodDescriptor "(LPathHouse$Term;LPathHouse$Node;I)Z").map (fun s => s.parameters.length) = some 3 := by decide +kernel
theorem mK17 : EOK mE17 3 ∧ kindOK mE17 1 := ⟨eokC (tw5 (i := 152) rfl) (tw1 (i := 5) rfl) cne0 dsc13 (by decide), kokV (by decide) (tw5 (i := 151) rfl) rfl (pw6 (i := 10) rfl)⟩
def mE18 : ME := (yX0_countOf, .code yX0_countOf cX0_countOf 4 (some FieldType.int), cX0_countOf, 4, (some FieldType.int), [])
theorem dsc14 : (parseMethodDescriptor "(LPathHouse$Term;LPathHouse$Node;I)I").map (fun s => s.parameters.length) = some 3 := by decide +kernel
theorem mK18 : EOK mE18 3 ∧ kindOK mE18 1 := ⟨eokC (tw5 (i := 176) rfl) (tw1 (i := 5) rfl) cne0 dsc14 (by decide), kokV (by decide) (tw5 (i := 175) rfl) rfl (pw6 (i := 14) rfl)⟩
def mE19 : ME := (yX0_onlyOf, .code yX0_onlyOf cX0_onlyOf 5 (some (FieldType.object "PathHouse$Node")), cX0_onlyOf, 5, (some (FieldType.object "PathHouse$Node")), [])
theorem dsc15 : (parseMethodDescriptor "(LPathHouse$Term;LPathHouse$Node;I)LPathHouse$Node;").map (fun s => s.parameters.length) = some 3 := by decide +kernel
theorem mK19 : EOK mE19 3 ∧ kindOK mE19 1 := ⟨eokC (tw5 (i := 162) rfl) (tw1 (i := 5) rfl) cne0 dsc15 (by decide), kokV (by decide) (tw5 (i := 161) rfl) rfl (pw6 (i := 12) rfl)⟩
def mE20 : ME := (yX0_valueOf, .code yX0_valueOf cX0_valueOf 4 (some (FieldType.object "PathHouse$Node")), cX0_valueOf, 4, (some (FieldType.object "PathHouse$Node")), [])
theorem mK20 : EOK mE20 3 ∧ kindOK mE20 1 := ⟨eokC (tw5 (i := 158) rfl) (tw1 (i := 5) rfl) cne0 dsc15 (by decide), kokV (by decide) (tw5 (i := 157) rfl) rfl (pw6 (i := 11) rfl)⟩
def mE21 : ME := (yX0_reckoned, .code yX0_reckoned cX0_reckoned 2 (some (FieldType.object "PathHouse$Node")), cX0_reckoned, 2, (some (FieldType.object "PathHouse$Node")), [])
theorem dsc16 : (parseMethodDescriptor "(ILPathHouse$Node;)LPathHouse$Node;").map (fun s => s.parameters.length) = some 2 := by decide +kernel
theorem mK21 : EOK mE21 2 ∧ kindOK mE21 1000 := ⟨eokC (tw5 (i := 172) rfl) (tw1 (i := 5) rfl) cne0 dsc16 (by decide), kokS (tw5 (i := 171) rfl)⟩
def mE22 : ME := (yX0_lengthOf, .code yX0_lengthOf cX0_lengthOf 2 (some (FieldType.object "PathHouse$Node")), cX0_lengthOf, 2, (some (FieldType.object "PathHouse$Node")), [])
theorem dsc17 : (parseMethodDescriptor "(LPathHouse$Node;LPathHouse$Node;)LPathHouse$Node;").map (fun s => s.parameters.length) = some 2 := by decide +kernel
theorem mK22 : EOK mE22 2 ∧ kindOK mE22 1000 := ⟨eokC (tw5 (i := 165) rfl) (tw1 (i := 5) rfl) cne0 dsc17 (by decide), kokS (tw5 (i := 164) rfl)⟩
def mE23 : ME := (yX0_compares, .code yX0_compares cX0_compares 4 (some FieldType.boolean), cX0_compares, 4, (some FieldType.boolean), [])
theorem dsc18 : (parseMethodDescriptor "(ILPathHouse$Node;LPathHouse$Node;)Z").map (fun s => s.parameters.length) = some 3 := by decide +kernel
theorem mK23 : EOK mE23 3 ∧ kindOK mE23 1 := ⟨eokC (tw5 (i := 180) rfl) (tw1 (i := 5) rfl) cne0 dsc18 (by decide), kokV (by decide) (tw5 (i := 179) rfl) rfl (pw6 (i := 15) rfl)⟩
def mE24 : ME := (yX0_isLess, .code yX0_isLess cX0_isLess 2 (some FieldType.boolean), cX0_isLess, 2, (some FieldType.boolean), [])
theorem dsc19 : (parseMethodDescriptor "(LPathHouse$Node;LPathHouse$Node;)Z").map (fun s => s.parameters.length) = some 2 := by decide +kernel
theorem mK24 : EOK mE24 2 ∧ kindOK mE24 1000 := ⟨eokC (tw5 (i := 188) rfl) (tw1 (i := 5) rfl) cne0 dsc19 (by decide), kokS (tw5 (i := 187) rfl)⟩
def mE25 : ME := (yX0_isEqual, .code yX0_isEqual cX0_isEqual 8 (some FieldType.boolean), cX0_isEqual, 8, (some FieldType.boolean), [])
theorem dsc20 : (parseMethodDescriptor "(LPathHouse$Node;LPathHouse$Node;I)Z").map (fun s => s.parameters.length) = some 3 := by decide +kernel
theorem mK25 : EOK mE25 3 ∧ kindOK mE25 1 := ⟨eokC (tw5 (i := 184) rfl) (tw1 (i := 5) rfl) cne0 dsc20 (by decide), kokV (by decide) (tw5 (i := 183) rfl) rfl (pw7 (i := 0) rfl)⟩
def mE26 : ME := (yX1_init, .code yX1_init cX1_init 5 none, cX1_init, 5, none, [])
theorem cne1 : ("PathHouse$Node" : String) ≠ "java/lang/invoke/MethodHandle" ∧ ("PathHouse$Node" : String) ≠ "java/lang/invoke/VarHandle" := ⟨by decide, by decide⟩
theorem dsc21 : (parseMethodDescriptor "(ILPathHouse$Node;II)V").map (fun s => s.parameters.length) = some 4 := by decide +kernel
theorem mK26 : EOK mE26 4 ∧ kindOK mE26 2000 := ⟨eokC (tw2 (i := 70) rfl) (tw1 (i := 16) rfl) cne1 dsc21 (by decide), kokI (tw2 (i := 69) rfl) rfl rfl⟩
def mE27 : ME := (yX1_kidCount, .code yX1_kidCount cX1_kidCount 1 (some FieldType.int), cX1_kidCount, 1, (some FieldType.int), [])
theorem mK27 : EOK mE27 0 ∧ kindOK mE27 2 := ⟨eokC (tw5 (i := 122) rfl) (tw1 (i := 16) rfl) cne1 dsc2 (by decide), kokV (by decide) (tw5 (i := 121) rfl) rfl (pw6 (i := 5) rfl)⟩
def mE28 : ME := (yX1_kid, .code yX1_kid cX1_kid 3 (some (FieldType.object "PathHouse$Node")), cX1_kid, 3, (some (FieldType.object "PathHouse$Node")), [])
theorem dsc22 : (parseMethodDescriptor "(J)LPathHouse$Node;").map (fun s => s.parameters.length) = some 1 := by decide +kernel
theorem mK28 : EOK mE28 1 ∧ kindOK mE28 2 := ⟨eokC (tw5 (i := 126) rfl) (tw1 (i := 16) rfl) cne1 dsc22 (by decide), kokV (by decide) (tw5 (i := 125) rfl) rfl (pw6 (i := 6) rfl)⟩
def mE29 : ME := (yX1_size, .code yX1_size cX1_size 1 (some FieldType.int), cX1_size, 1, (some FieldType.int), [])
theorem mK29 : EOK mE29 0 ∧ kindOK mE29 2 := ⟨eokC (tw5 (i := 169) rfl) (tw1 (i := 16) rfl) cne1 dsc2 (by decide), kokV (by decide) (tw5 (i := 168) rfl) rfl (pw6 (i := 13) rfl)⟩
def mE30 : ME := (yX1_adopt, .code yX1_adopt cX1_adopt 3 none, cX1_adopt, 3, none, [])
theorem dsc23 : (parseMethodDescriptor "(LPathHouse$Node;[I)V").map (fun s => s.parameters.length) = some 2 := by decide +kernel
theorem mK30 : EOK mE30 2 ∧ kindOK mE30 2 := ⟨eokC (tw3 (i := 71) rfl) (tw1 (i := 16) rfl) cne1 dsc23 (by decide), kokV (by decide) (tw3 (i := 70) rfl) rfl (pw2 (i := 8) rfl)⟩
def mE31 : ME := (yX1_member, .code yX1_member cX1_member 4 (some (FieldType.object "PathHouse$Node")), cX1_member, 4, (some (FieldType.object "PathHouse$Node")), [])
theorem dsc24 : (parseMethodDescriptor "([I)LPathHouse$Node;").map (fun s => s.parameters.length) = some 1 := by decide +kernel
theorem mK31 : EOK mE31 1 ∧ kindOK mE31 2 := ⟨eokC (tw3 (i := 154) rfl) (tw1 (i := 16) rfl) cne1 dsc24 (by decide), kokV (by decide) (tw3 (i := 153) rfl) rfl (pw2 (i := 15) rfl)⟩
def mE32 : ME := (yX1_element, .code yX1_element cX1_element 3 (some (FieldType.object "PathHouse$Node")), cX1_element, 3, (some (FieldType.object "PathHouse$Node")), [])
theorem mK32 : EOK mE32 1 ∧ kindOK mE32 2 := ⟨eokC (tw5 (i := 130) rfl) (tw1 (i := 16) rfl) cne1 dsc22 (by decide), kokV (by decide) (tw5 (i := 129) rfl) rfl (pw6 (i := 7) rfl)⟩
def mE33 : ME := (yX1_deepest, .code yX1_deepest cX1_deepest 3 (some FieldType.int), cX1_deepest, 3, (some FieldType.int), [])
theorem mK33 : EOK mE33 0 ∧ kindOK mE33 2 := ⟨eokC (tw6 (i := 41) rfl) (tw1 (i := 16) rfl) cne1 dsc2 (by decide), kokV (by decide) (tw6 (i := 40) rfl) rfl (pw7 (i := 13) rfl)⟩
def mE34 : ME := (yX2_init, .code yX2_init cX2_init 1 none, cX2_init, 1, none, [])
theorem cne2 : ("PathHouse$Out" : String) ≠ "java/lang/invoke/MethodHandle" ∧ ("PathHouse$Out" : String) ≠ "java/lang/invoke/VarHandle" := ⟨by decide, by decide⟩
theorem mK34 : EOK mE34 0 ∧ kindOK mE34 2000 := ⟨eokC (tw1 (i := 142) rfl) (tw1 (i := 6) rfl) cne2 dsc0 (by decide), kokI (tw1 (i := 141) rfl) rfl rfl⟩
def mE35 : ME := (yX2_clear, .code yX2_clear cX2_clear 1 none, cX2_clear, 1, none, [])
theorem mK35 : EOK mE35 0 ∧ kindOK mE35 3 := ⟨eokC (tw5 (i := 217) rfl) (tw1 (i := 6) rfl) cne2 dsc0 (by decide), kokV (by decide) (tw5 (i := 216) rfl) rfl (pw7 (i := 3) rfl)⟩
def mE36 : ME := (yX2_has, .code yX2_has cX2_has 2 (some FieldType.boolean), cX2_has, 2, (some FieldType.boolean), [])
theorem dsc25 : (parseMethodDescriptor "(I)Z").map (fun s => s.parameters.length) = some 1 := by decide +kernel
theorem mK36 : EOK mE36 1 ∧ kindOK mE36 3 := ⟨eokC (tw6 (i := 56) rfl) (tw1 (i := 6) rfl) cne2 dsc25 (by decide), kokV (by decide) (tw6 (i := 55) rfl) rfl (pw7 (i := 14) rfl)⟩
def mE37 : ME := (yX2_get, .code yX2_get cX2_get 2 (some FieldType.int), cX2_get, 2, (some FieldType.int), [])
theorem dsc26 : (parseMethodDescriptor "(I)I").map (fun s => s.parameters.length) = some 1 := by decide +kernel
theorem mK37 : EOK mE37 1 ∧ kindOK mE37 3 := ⟨eokC (tw6 (i := 76) rfl) (tw1 (i := 6) rfl) cne2 dsc26 (by decide), kokV (by decide) (tw6 (i := 75) rfl) rfl (pw7 (i := 15) rfl)⟩
def mE38 : ME := (yX2_put, .code yX2_put cX2_put 2 none, cX2_put, 2, none, [])
theorem mK38 : EOK mE38 1 ∧ kindOK mE38 3 := ⟨eokC (tw5 (i := 225) rfl) (tw1 (i := 6) rfl) cne2 dsc4 (by decide), kokV (by decide) (tw5 (i := 224) rfl) rfl (pw7 (i := 5) rfl)⟩
def mE39 : ME := (yX2_putWord, .code yX2_putWord cX2_putWord 3 none, cX2_putWord, 3, none, [])
theorem dsc27 : (parseMethodDescriptor "(Ljava/lang/String;)V").map (fun s => s.parameters.length) = some 1 := by decide +kernel
theorem mK39 : EOK mE39 1 ∧ kindOK mE39 3 := ⟨eokC (tw5 (i := 239) rfl) (tw1 (i := 6) rfl) cne2 dsc27 (by decide), kokV (by decide) (tw5 (i := 238) rfl) rfl (pw7 (i := 8) rfl)⟩
def mE40 : ME := (yX2_putWhole, .code yX2_putWhole cX2_putWhole 8 none, cX2_putWhole, 8, none, [])
theorem dsc28 : (parseMethodDescriptor "(J)V").map (fun s => s.parameters.length) = some 1 := by decide +kernel
theorem mK40 : EOK mE40 1 ∧ kindOK mE40 3 := ⟨eokC (tw6 (i := 10) rfl) (tw1 (i := 6) rfl) cne2 dsc28 (by decide), kokV (by decide) (tw6 (i := 9) rfl) rfl (pw7 (i := 10) rfl)⟩
def mE41 : ME := (yX2_putQuoted, .code yX2_putQuoted cX2_putQuoted 5 none, cX2_putQuoted, 5, none, [])
theorem dsc29 : (parseMethodDescriptor "([II)V").map (fun s => s.parameters.length) = some 2 := by decide +kernel
theorem mK41 : EOK mE41 2 ∧ kindOK mE41 3 := ⟨eokC (tw5 (i := 230) rfl) (tw1 (i := 6) rfl) cne2 dsc29 (by decide), kokV (by decide) (tw5 (i := 229) rfl) rfl (pw7 (i := 6) rfl)⟩
def mE42 : ME := (yX2_putControl, .code yX2_putControl cX2_putControl 2 none, cX2_putControl, 2, none, [])
theorem mK42 : EOK mE42 1 ∧ kindOK mE42 3 := ⟨eokC (tw5 (i := 234) rfl) (tw1 (i := 6) rfl) cne2 dsc4 (by decide), kokV (by decide) (tw5 (i := 233) rfl) rfl (pw7 (i := 7) rfl)⟩
def mE43 : ME := (yX2_putCode, .code yX2_putCode cX2_putCode 2 none, cX2_putCode, 2, none, [])
theorem mK43 : EOK mE43 1 ∧ kindOK mE43 3 := ⟨eokC (tw6 (i := 5) rfl) (tw1 (i := 6) rfl) cne2 dsc4 (by decide), kokV (by decide) (tw6 (i := 4) rfl) rfl (pw7 (i := 9) rfl)⟩
def mE44 : ME := (yX2_putSteps, .code yX2_putSteps cX2_putSteps 3 none, cX2_putSteps, 3, none, [])
theorem dsc30 : (parseMethodDescriptor "(LPathHouse$Node;I)V").map (fun s => s.parameters.length) = some 2 := by decide +kernel
theorem mK44 : EOK mE44 2 ∧ kindOK mE44 3 := ⟨eokC (tw5 (i := 221) rfl) (tw1 (i := 6) rfl) cne2 dsc30 (by decide), kokV (by decide) (tw5 (i := 220) rfl) rfl (pw7 (i := 4) rfl)⟩
def mE45 : ME := (yX2_putValue, .code yX2_putValue cX2_putValue 3 none, cX2_putValue, 3, none, [])
theorem mK45 : EOK mE45 2 ∧ kindOK mE45 3 := ⟨eokC (tw6 (i := 23) rfl) (tw1 (i := 6) rfl) cne2 dsc30 (by decide), kokV (by decide) (tw6 (i := 22) rfl) rfl (pw7 (i := 11) rfl)⟩
def mE46 : ME := (yX2_putKids, .code yX2_putKids cX2_putKids 5 none, cX2_putKids, 5, none, [])
theorem mK46 : EOK mE46 2 ∧ kindOK mE46 3 := ⟨eokC (tw6 (i := 30) rfl) (tw1 (i := 6) rfl) cne2 dsc30 (by decide), kokV (by decide) (tw6 (i := 29) rfl) rfl (pw7 (i := 12) rfl)⟩
def mE47 : ME := (yX3_init, .code yX3_init cX3_init 2 none, cX3_init, 2, none, [])
theorem cne3 : ("PathHouse$Path" : String) ≠ "java/lang/invoke/MethodHandle" ∧ ("PathHouse$Path" : String) ≠ "java/lang/invoke/VarHandle" := ⟨by decide, by decide⟩
theorem dsc31 : (parseMethodDescriptor "(Z)V").map (fun s => s.parameters.length) = some 1 := by decide +kernel
theorem mK47 : EOK mE47 1 ∧ kindOK mE47 2000 := ⟨eokC (tw3 (i := 189) rfl) (tw1 (i := 28) rfl) cne3 dsc31 (by decide), kokI (tw3 (i := 188) rfl) rfl rfl⟩
def mE48 : ME := (yX4_init, .code yX4_init cX4_init 2 none, cX4_init, 2, none, [])
theorem cne4 : ("PathHouse$QueryReader" : String) ≠ "java/lang/invoke/MethodHandle" ∧ ("PathHouse$QueryReader" : String) ≠ "java/lang/invoke/VarHandle" := ⟨by decide, by decide⟩
theorem dsc32 : (parseMethodDescriptor "(LPathHouse$Reader;)V").map (fun s => s.parameters.length) = some 1 := by decide +kernel
theorem mK48 : EOK mE48 1 ∧ kindOK mE48 2000 := ⟨eokC (tw1 (i := 98) rfl) (tw1 (i := 4) rfl) cne4 dsc32 (by decide), kokI (tw1 (i := 97) rfl) rfl rfl⟩
def mE49 : ME := (yX4_whole, .code yX4_whole cX4_whole 3 (some (FieldType.object "PathHouse$Path")), cX4_whole, 3, (some (FieldType.object "PathHouse$Path")), [])
theorem dsc33 : (parseMethodDescriptor "()LPathHouse$Path;").map (fun s => s.parameters.length) = some 0 := by decide +kernel
theorem mK49 : EOK mE49 0 ∧ kindOK mE49 5 := ⟨eokC (tw3 (i := 182) rfl) (tw1 (i := 4) rfl) cne4 dsc33 (by decide), kokV (by decide) (tw3 (i := 181) rfl) rfl (pw3 (i := 1) rfl)⟩
def mE50 : ME := (yX4_note, .code yX4_note cX4_note 3 none, cX4_note, 3, none, [])
theorem dsc34 : (parseMethodDescriptor "(II)V").map (fun s => s.parameters.length) = some 2 := by decide +kernel
theorem mK50 : EOK mE50 2 ∧ kindOK mE50 5 := ⟨eokC (tw4 (i := 70) rfl) (tw1 (i := 4) rfl) cne4 dsc34 (by decide), kokV (by decide) (tw4 (i := 69) rfl) rfl (pw3 (i := 10) rfl)⟩
def mE51 : ME := (yX4_enter, .code yX4_enter cX4_enter 1 none, cX4_enter, 1, none, [])
theorem mK51 : EOK mE51 0 ∧ kindOK mE51 5 := ⟨eokC (tw4 (i := 82) rfl) (tw1 (i := 4) rfl) cne4 dsc0 (by decide), kokV (by decide) (tw4 (i := 81) rfl) rfl (pw3 (i := 13) rfl)⟩
def mE52 : ME := (yX4_readInt, .code yX4_readInt cX4_readInt 5 (some FieldType.long), cX4_readInt, 5, (some FieldType.long), [])
theorem dsc35 : (parseMethodDescriptor "(Z)J").map (fun s => s.parameters.length) = some 1 := by decide +kernel
theorem mK52 : EOK mE52 1 ∧ kindOK mE52 5 := ⟨eokC (tw4 (i := 64) rfl) (tw1 (i := 4) rfl) cne4 dsc35 (by decide), kokV (by decide) (tw4 (i := 63) rfl) rfl (pw3 (i := 9) rfl)⟩
def mE53 : ME := (yX4_atInt, .code yX4_atInt cX4_atInt 1 (some FieldType.boolean), cX4_atInt, 1, (some FieldType.boolean), [])
theorem dsc36 : (parseMethodDescriptor "()Z").map (fun s => s.parameters.length) = some 0 := by decide +kernel
theorem mK53 : EOK mE53 0 ∧ kindOK mE53 5 := ⟨eokC (tw4 (i := 55) rfl) (tw1 (i := 4) rfl) cne4 dsc36 (by decide), kokV (by decide) (tw4 (i := 54) rfl) rfl (pw3 (i := 7) rfl)⟩
def mE54 : ME := (yX4_atString, .code yX4_atString cX4_atString 1 (some FieldType.boolean), cX4_atString, 1, (some FieldType.boolean), [])
theorem mK54 : EOK mE54 0 ∧ kindOK mE54 5 := ⟨eokC (tw4 (i := 10) rfl) (tw1 (i := 4) rfl) cne4 dsc36 (by decide), kokV (by decide) (tw4 (i := 9) rfl) rfl (pw3 (i := 6) rfl)⟩
def mE55 : ME := (yX4_readSegments, .code yX4_readSegments cX4_readSegments 5 (some FieldType.int), cX4_readSegments, 5, (some FieldType.int), [])
theorem dsc37 : (parseMethodDescriptor "(LPathHouse$Path;Z)I").map (fun s => s.parameters.length) = some 2 := by decide +kernel
theorem mK55 : EOK mE55 2 ∧ kindOK mE55 5 := ⟨eokC (tw3 (i := 213) rfl) (tw1 (i := 4) rfl) cne4 dsc37 (by decide), kokV (by decide) (tw3 (i := 212) rfl) rfl (pw3 (i := 2) rfl)⟩
def mE56 : ME := (yX4_readSegment, .code yX4_readSegment cX4_readSegment 5 none, cX4_readSegment, 5, none, [])
theorem dsc38 : (parseMethodDescriptor "(LPathHouse$Path;Z)V").map (fun s => s.parameters.length) = some 2 := by decide +kernel
theorem mK56 : EOK mE56 2 ∧ kindOK mE56 5 := ⟨eokC (tw3 (i := 218) rfl) (tw1 (i := 4) rfl) cne4 dsc38 (by decide), kokV (by decide) (tw3 (i := 217) rfl) rfl (pw3 (i := 3) rfl)⟩
def mE57 : ME := (yX4_readDotted, .code yX4_readDotted cX4_readDotted 4 (some FieldType.boolean), cX4_readDotted, 4, (some FieldType.boolean), [])
theorem dsc39 : (parseMethodDescriptor "(LPathHouse$Segment;Z)Z").map (fun s => s.parameters.length) = some 2 := by decide +kernel
theorem mK57 : EOK mE57 2 ∧ kindOK mE57 5 := ⟨eokC (tw5 (i := 14) rfl) (tw1 (i := 4) rfl) cne4 dsc39 (by decide), kokV (by decide) (tw5 (i := 13) rfl) rfl (pw5 (i := 7) rfl)⟩
def mE58 : ME := (yX4_readBrackets, .code yX4_readBrackets cX4_readBrackets 6 (some FieldType.boolean), cX4_readBrackets, 6, (some FieldType.boolean), [])
theorem mK58 : EOK mE58 2 ∧ kindOK mE58 5 := ⟨eokC (tw4 (i := 1) rfl) (tw1 (i := 4) rfl) cne4 dsc39 (by decide), kokV (by decide) (tw4 (i := 0) rfl) rfl (pw3 (i := 4) rfl)⟩
def mE59 : ME := (yX4_readSelector, .code yX4_readSelector cX4_readSelector 3 (some (FieldType.object "PathHouse$Selector")), cX4_readSelector, 3, (some (FieldType.object "PathHouse$Selector")), [])
theorem dsc40 : (parseMethodDescriptor "(Z)LPathHouse$Selector;").map (fun s => s.parameters.length) = some 1 := by decide +kernel
theorem mK59 : EOK mE59 1 ∧ kindOK mE59 5 := ⟨eokC (tw4 (i := 6) rfl) (tw1 (i := 4) rfl) cne4 dsc40 (by decide), kokV (by decide) (tw4 (i := 5) rfl) rfl (pw3 (i := 5) rfl)⟩
def mE60 : ME := (yX4_readIndexed, .code yX4_readIndexed cX4_readIndexed 6 (some (FieldType.object "PathHouse$Selector")), cX4_readIndexed, 6, (some (FieldType.object "PathHouse$Selector")), [])
theorem mK60 : EOK mE60 1 ∧ kindOK mE60 5 := ⟨eokC (tw4 (i := 60) rfl) (tw1 (i := 4) rfl) cne4 dsc40 (by decide), kokV (by decide) (tw4 (i := 59) rfl) rfl (pw3 (i := 8) rfl)⟩
def mE61 : ME := (yX4_readSlice, .code yX4_readSlice cX4_readSlice 5 (some (FieldType.object "PathHouse$Selector")), cX4_readSlice, 5, (some (FieldType.object "PathHouse$Selector")), [])
theorem dsc41 : (parseMethodDescriptor "(ZJ)LPathHouse$Selector;").map (fun s => s.parameters.length) = some 2 := by decide +kernel
theorem mK61 : EOK mE61 2 ∧ kindOK mE61 5 := ⟨eokC (tw4 (i := 74) rfl) (tw1 (i := 4) rfl) cne4 dsc41 (by decide), kokV (by decide) (tw4 (i := 73) rfl) rfl (pw3 (i := 11) rfl)⟩
def mE62 : ME := (yX4_readFilter, .code yX4_readFilter cX4_readFilter 2 (some (FieldType.object "PathHouse$Selector")), cX4_readFilter, 2, (some (FieldType.object "PathHouse$Selector")), [])
theorem dsc42 : (parseMethodDescriptor "()LPathHouse$Selector;").map (fun s => s.parameters.length) = some 0 := by decide +kernel
theorem mK62 : EOK mE62 0 ∧ kindOK mE62 5 := ⟨eokC (tw4 (i := 78) rfl) (tw1 (i := 4) rfl) cne4 dsc42 (by decide), kokV (by decide) (tw4 (i := 77) rfl) rfl (pw3 (i := 12) rfl)⟩
def mE63 : ME := (yX4_readOr, .code yX4_readOr cX4_readOr 4 (some (FieldType.object "PathHouse$Term")), cX4_readOr, 4, (some (FieldType.object "PathHouse$Term")), [])
theorem dsc43 : (parseMethodDescriptor "(LPathHouse$Term;)LPathHouse$Term;").map (fun s => s.parameters.length) = some 1 := by decide +kernel
theorem mK63 : EOK mE63 1 ∧ kindOK mE63 5 := ⟨eokC (tw4 (i := 86) rfl) (tw1 (i := 4) rfl) cne4 dsc43 (by decide), kokV (by decide) (tw4 (i := 85) rfl) rfl (pw3 (i := 14) rfl)⟩
def mE64 : ME := (yX4_readAnd, .code yX4_readAnd cX4_readAnd 4 (some (FieldType.object "PathHouse$Term")), cX4_readAnd, 4, (some (FieldType.object "PathHouse$Term")), [])
theorem mK64 : EOK mE64 1 ∧ kindOK mE64 5 := ⟨eokC (tw4 (i := 137) rfl) (tw1 (i := 4) rfl) cne4 dsc43 (by decide), kokV (by decide) (tw4 (i := 136) rfl) rfl (pw3 (i := 15) rfl)⟩
def mE65 : ME := (yX4_takesTwice, .code yX4_takesTwice cX4_takesTwice 2 (some FieldType.boolean), cX4_takesTwice, 2, (some FieldType.boolean), [])
theorem mK65 : EOK mE65 1 ∧ kindOK mE65 5 := ⟨eokC (tw4 (i := 231) rfl) (tw1 (i := 4) rfl) cne4 dsc25 (by decide), kokV (by decide) (tw4 (i := 230) rfl) rfl (pw5 (i := 2) rfl)⟩
def mE66 : ME := (yX4_readBasic, .code yX4_readBasic cX4_readBasic 2 (some (FieldType.object "PathHouse$Term")), cX4_readBasic, 2, (some (FieldType.object "PathHouse$Term")), [])
theorem dsc44 : (parseMethodDescriptor "()LPathHouse$Term;").map (fun s => s.parameters.length) = some 0 := by decide +kernel
theorem mK66 : EOK mE66 0 ∧ kindOK mE66 5 := ⟨eokC (tw4 (i := 141) rfl) (tw1 (i := 4) rfl) cne4 dsc44 (by decide), kokV (by decide) (tw4 (i := 140) rfl) rfl (pw4 (i := 0) rfl)⟩
def mE67 : ME := (yX4_readGroup, .code yX4_readGroup cX4_readGroup 2 (some (FieldType.object "PathHouse$Term")), cX4_readGroup, 2, (some (FieldType.object "PathHouse$Term")), [])
theorem mK67 : EOK mE67 0 ∧ kindOK mE67 5 := ⟨eokC (tw4 (i := 145) rfl) (tw1 (i := 4) rfl) cne4 dsc44 (by decide), kokV (by decide) (tw4 (i := 144) rfl) rfl (pw4 (i := 1) rfl)⟩
def mE68 : ME := (yX4_readNegatedTest, .code yX4_readNegatedTest cX4_readNegatedTest 1 (some (FieldType.object "PathHouse$Term")), cX4_readNegatedTest, 1, (some (FieldType.object "PathHouse$Term")), [])
theorem mK68 : EOK mE68 0 ∧ kindOK mE68 5 := ⟨eokC (tw4 (i := 150) rfl) (tw1 (i := 4) rfl) cne4 dsc44 (by decide), kokV (by decide) (tw4 (i := 149) rfl) rfl (pw4 (i := 2) rfl)⟩
def mE69 : ME := (yX4_readBasicFrom, .code yX4_readBasicFrom cX4_readBasicFrom 2 (some (FieldType.object "PathHouse$Term")), cX4_readBasicFrom, 2, (some (FieldType.object "PathHouse$Term")), [])
theorem mK69 : EOK mE69 1 ∧ kindOK mE69 5 := ⟨eokC (tw4 (i := 219) rfl) (tw1 (i := 4) rfl) cne4 dsc43 (by decide), kokV (by decide) (tw4 (i := 218) rfl) rfl (pw4 (i := 15) rfl)⟩
def mE70 : ME := (yX4_asTest, .code yX4_asTest cX4_asTest 2 (some (FieldType.object "PathHouse$Term")), cX4_asTest, 2, (some (FieldType.object "PathHouse$Term")), [])
theorem mK70 : EOK mE70 1 ∧ kindOK mE70 5 := ⟨eokC (tw4 (i := 214) rfl) (tw1 (i := 4) rfl) cne4 dsc43 (by decide), kokV (by decide) (tw4 (i := 213) rfl) rfl (pw4 (i := 14) rfl)⟩
def mE71 : ME := (yX4_atOperator, .code yX4_atOperator cX4_atOperator 2 (some FieldType.boolean), cX4_atOperator, 2, (some FieldType.boolean), [])
theorem mK71 : EOK mE71 0 ∧ kindOK mE71 5 := ⟨eokC (tw4 (i := 198) rfl) (tw1 (i := 4) rfl) cne4 dsc36 (by decide), kokV (by decide) (tw4 (i := 197) rfl) rfl (pw4 (i := 12) rfl)⟩
def mE72 : ME := (yX4_readComparison, .code yX4_readComparison cX4_readComparison 3 (some (FieldType.object "PathHouse$Term")), cX4_readComparison, 3, (some (FieldType.object "PathHouse$Term")), [])
theorem mK72 : EOK mE72 1 ∧ kindOK mE72 5 := ⟨eokC (tw4 (i := 223) rfl) (tw1 (i := 4) rfl) cne4 dsc43 (by decide), kokV (by decide) (tw4 (i := 222) rfl) rfl (pw5 (i := 0) rfl)⟩
def mE73 : ME := (yX4_readOperator, .code yX4_readOperator cX4_readOperator 2 (some FieldType.int), cX4_readOperator, 2, (some FieldType.int), [])
theorem mK73 : EOK mE73 0 ∧ kindOK mE73 5 := ⟨eokC (tw4 (i := 227) rfl) (tw1 (i := 4) rfl) cne4 dsc2 (by decide), kokV (by decide) (tw4 (i := 226) rfl) rfl (pw5 (i := 1) rfl)⟩
def mE74 : ME := (yX4_readOperand, .code yX4_readOperand cX4_readOperand 5 (some (FieldType.object "PathHouse$Term")), cX4_readOperand, 5, (some (FieldType.object "PathHouse$Term")), [])
theorem dsc45 : (parseMethodDescriptor "(Z)LPathHouse$Term;").map (fun s => s.parameters.length) = some 1 := by decide +kernel
theorem mK74 : EOK mE74 1 ∧ kindOK mE74 5 := ⟨eokC (tw4 (i := 154) rfl) (tw1 (i := 4) rfl) cne4 dsc45 (by decide), kokV (by decide) (tw4 (i := 153) rfl) rfl (pw4 (i := 3) rfl)⟩
def mE75 : ME := (yX4_literal, .code yX4_literal cX4_literal 3 (some (FieldType.object "PathHouse$Term")), cX4_literal, 3, (some (FieldType.object "PathHouse$Term")), [])
theorem dsc46 : (parseMethodDescriptor "(II)LPathHouse$Term;").map (fun s => s.parameters.length) = some 2 := by decide +kernel
theorem mK75 : EOK mE75 2 ∧ kindOK mE75 1000 := ⟨eokC (tw4 (i := 208) rfl) (tw1 (i := 4) rfl) cne4 dsc46 (by decide), kokS (tw4 (i := 207) rfl)⟩
def mE76 : ME := (yX4_readWord, .code yX4_readWord cX4_readWord 2 (some (FieldType.object "PathHouse$Term")), cX4_readWord, 2, (some (FieldType.object "PathHouse$Term")), [])
theorem mK76 : EOK mE76 0 ∧ kindOK mE76 5 := ⟨eokC (tw4 (i := 161) rfl) (tw1 (i := 4) rfl) cne4 dsc44 (by decide), kokV (by decide) (tw4 (i := 160) rfl) rfl (pw4 (i := 4) rfl)⟩
def mE77 : ME := (yX4_readFunction, .code yX4_readFunction cX4_readFunction 6 (some (FieldType.object "PathHouse$Term")), cX4_readFunction, 6, (some (FieldType.object "PathHouse$Term")), [])
theorem dsc47 : (parseMethodDescriptor "(I)LPathHouse$Term;").map (fun s => s.parameters.length) = some 1 := by decide +kernel
theorem mK77 : EOK mE77 1 ∧ kindOK mE77 5 := ⟨eokC (tw4 (i := 165) rfl) (tw1 (i := 4) rfl) cne4 dsc47 (by decide), kokV (by decide) (tw4 (i := 164) rfl) rfl (pw4 (i := 5) rfl)⟩
def mE78 : ME := (yX4_functionNamed, .code yX4_functionNamed cX4_functionNamed 2 (some FieldType.int), cX4_functionNamed, 2, (some FieldType.int), [])
theorem mK78 : EOK mE78 1 ∧ kindOK mE78 5 := ⟨eokC (tw4 (i := 169) rfl) (tw1 (i := 4) rfl) cne4 dsc26 (by decide), kokV (by decide) (tw4 (i := 168) rfl) rfl (pw4 (i := 6) rfl)⟩
def mE79 : ME := (yX4_readArgument, .code yX4_readArgument cX4_readArgument 3 (some (FieldType.object "PathHouse$Term")), cX4_readArgument, 3, (some (FieldType.object "PathHouse$Term")), [])
theorem mK79 : EOK mE79 0 ∧ kindOK mE79 5 := ⟨eokC (tw4 (i := 182) rfl) (tw1 (i := 4) rfl) cne4 dsc44 (by decide), kokV (by decide) (tw4 (i := 181) rfl) rfl (pw4 (i := 8) rfl)⟩
def mE80 : ME := (yX4_goesOnAsOr, .code yX4_goesOnAsOr cX4_goesOnAsOr 3 (some FieldType.boolean), cX4_goesOnAsOr, 3, (some FieldType.boolean), [])
theorem dsc48 : (parseMethodDescriptor "(LPathHouse$Term;)Z").map (fun s => s.parameters.length) = some 1 := by decide +kernel
theorem mK80 : EOK mE80 1 ∧ kindOK mE80 5 := ⟨eokC (tw4 (i := 186) rfl) (tw1 (i := 4) rfl) cne4 dsc48 (by decide), kokV (by decide) (tw4 (i := 185) rfl) rfl (pw4 (i := 9) rfl)⟩
def mE81 : ME := (yX5_init, .code yX5_init cX5_init 2 none, cX5_init, 2, none, [])
theorem cne5 : ("PathHouse$Reader" : String) ≠ "java/lang/invoke/MethodHandle" ∧ ("PathHouse$Reader" : String) ≠ "java/lang/invoke/VarHandle" := ⟨by decide, by decide⟩
theorem dsc49 : (parseMethodDescriptor "([B)V").map (fun s => s.parameters.length) = some 1 := by decide +kernel
theorem mK81 : EOK mE81 1 ∧ kindOK mE81 2000 := ⟨eokC (tw1 (i := 47) rfl) (tw1 (i := 2) rfl) cne5 dsc49 (by decide), kokI (tw1 (i := 46) rfl) rfl rfl⟩
def mE82 : ME := (yX5_begin, .code yX5_begin cX5_begin 2 none, cX5_begin, 2, none, [])
theorem mK82 : EOK mE82 1 ∧ kindOK mE82 6 := ⟨eokC (tw1 (i := 203) rfl) (tw1 (i := 2) rfl) cne5 dsc4 (by decide), kokV (by decide) (tw1 (i := 202) rfl) rfl (pw1 (i := 2) rfl)⟩
def mE83 : ME := (yX5_fail, .code yX5_fail cX5_fail 3 none, cX5_fail, 3, none, [])
theorem mK83 : EOK mE83 2 ∧ kindOK mE83 6 := ⟨eokC (tw1 (i := 237) rfl) (tw1 (i := 2) rfl) cne5 dsc34 (by decide), kokV (by decide) (tw1 (i := 236) rfl) rfl (pw1 (i := 8) rfl)⟩
def mE84 : ME := (yX5_byteAt, .code yX5_byteAt cX5_byteAt 2 (some FieldType.int), cX5_byteAt, 2, (some FieldType.int), [])
theorem mK84 : EOK mE84 1 ∧ kindOK mE84 6 := ⟨eokC (tw3 (i := 32) rfl) (tw1 (i := 2) rfl) cne5 dsc26 (by decide), kokV (by decide) (tw3 (i := 31) rfl) rfl (pw2 (i := 3) rfl)⟩
def mE85 : ME := (yX5_here, .code yX5_here cX5_here 1 (some FieldType.int), cX5_here, 1, (some FieldType.int), [])
theorem mK85 : EOK mE85 0 ∧ kindOK mE85 6 := ⟨eokC (tw1 (i := 222) rfl) (tw1 (i := 2) rfl) cne5 dsc2 (by decide), kokV (by decide) (tw1 (i := 221) rfl) rfl (pw1 (i := 6) rfl)⟩
def mE86 : ME := (yX5_isBlank, .code yX5_isBlank cX5_isBlank 2 (some FieldType.boolean), cX5_isBlank, 2, (some FieldType.boolean), [])
theorem mK86 : EOK mE86 0 ∧ kindOK mE86 6 := ⟨eokC (tw1 (i := 218) rfl) (tw1 (i := 2) rfl) cne5 dsc36 (by decide), kokV (by decide) (tw1 (i := 217) rfl) rfl (pw1 (i := 5) rfl)⟩
def mE87 : ME := (yX5_skipBlanks, .code yX5_skipBlanks cX5_skipBlanks 1 none, cX5_skipBlanks, 1, none, [])
theorem mK87 : EOK mE87 0 ∧ kindOK mE87 6 := ⟨eokC (tw1 (i := 214) rfl) (tw1 (i := 2) rfl) cne5 dsc0 (by decide), kokV (by decide) (tw1 (i := 213) rfl) rfl (pw1 (i := 4) rfl)⟩
def mE88 : ME := (yX5_expect, .code yX5_expect cX5_expect 2 none, cX5_expect, 2, none, [])
theorem mK88 : EOK mE88 1 ∧ kindOK mE88 6 := ⟨eokC (tw2 (i := 218) rfl) (tw1 (i := 2) rfl) cne5 dsc4 (by decide), kokV (by decide) (tw2 (i := 217) rfl) rfl (pw1 (i := 12) rfl)⟩
def mE89 : ME := (yX5_expectWord, .code yX5_expectWord cX5_expectWord 3 none, cX5_expectWord, 3, none, [])
theorem mK89 : EOK mE89 1 ∧ kindOK mE89 6 := ⟨eokC (tw2 (i := 166) rfl) (tw1 (i := 2) rfl) cne5 dsc27 (by decide), kokV (by decide) (tw2 (i := 165) rfl) rfl (pw1 (i := 11) rfl)⟩
def mE90 : ME := (yX5_isWord, .code yX5_isWord cX5_isWord 5 (some FieldType.boolean), cX5_isWord, 5, (some FieldType.boolean), [])
theorem dsc50 : (parseMethodDescriptor "(IILjava/lang/String;)Z").map (fun s => s.parameters.length) = some 3 := by decide +kernel
theorem mK90 : EOK mE90 3 ∧ kindOK mE90 6 := ⟨eokC (tw4 (i := 174) rfl) (tw1 (i := 2) rfl) cne5 dsc50 (by decide), kokV (by decide) (tw4 (i := 173) rfl) rfl (pw4 (i := 7) rfl)⟩
def mE91 : ME := (yX5_takeComma, .code yX5_takeComma cX5_takeComma 1 (some FieldType.boolean), cX5_takeComma, 1, (some FieldType.boolean), [])
theorem mK91 : EOK mE91 0 ∧ kindOK mE91 6 := ⟨eokC (tw3 (i := 140) rfl) (tw1 (i := 2) rfl) cne5 dsc36 (by decide), kokV (by decide) (tw3 (i := 139) rfl) rfl (pw2 (i := 12) rfl)⟩
def mE92 : ME := (yX5_wholeNumber, .code yX5_wholeNumber cX5_wholeNumber 6 (some FieldType.long), cX5_wholeNumber, 6, (some FieldType.long), [])
theorem mK92 : EOK mE92 1 ∧ kindOK mE92 6 := ⟨eokC (tw2 (i := 229) rfl) (tw1 (i := 2) rfl) cne5 dsc35 (by decide), kokV (by decide) (tw2 (i := 228) rfl) rfl (pw1 (i := 14) rfl)⟩
def mE93 : ME := (yX5_keep, .code yX5_keep cX5_keep 2 none, cX5_keep, 2, none, [])
theorem mK93 : EOK mE93 1 ∧ kindOK mE93 6 := ⟨eokC (tw3 (i := 41) rfl) (tw1 (i := 2) rfl) cne5 dsc4 (by decide), kokV (by decide) (tw3 (i := 40) rfl) rfl (pw2 (i := 4) rfl)⟩
def mE94 : ME := (yX5_kept, .code yX5_kept cX5_kept 1 (some (FieldType.array FieldType.int)), cX5_kept, 1, (some (FieldType.array FieldType.int)), [])
theorem dsc51 : (parseMethodDescriptor "()[I").map (fun s => s.parameters.length) = some 0 := by decide +kernel
theorem mK94 : EOK mE94 0 ∧ kindOK mE94 6 := ⟨eokC (tw3 (i := 45) rfl) (tw1 (i := 2) rfl) cne5 dsc51 (by decide), kokV (by decide) (tw3 (i := 44) rfl) rfl (pw2 (i := 5) rfl)⟩
def mE95 : ME := (yX5_string, .code yX5_string cX5_string 3 (some (FieldType.array FieldType.int)), cX5_string, 3, (some (FieldType.array FieldType.int)), [])
theorem mK95 : EOK mE95 0 ∧ kindOK mE95 6 := ⟨eokC (tw3 (i := 4) rfl) (tw1 (i := 2) rfl) cne5 dsc51 (by decide), kokV (by decide) (tw3 (i := 3) rfl) rfl (pw1 (i := 15) rfl)⟩
def mE96 : ME := (yX5_plainName, .code yX5_plainName cX5_plainName 2 (some (FieldType.array FieldType.int)), cX5_plainName, 2, (some (FieldType.array FieldType.int)), [])
theorem mK96 : EOK mE96 0 ∧ kindOK mE96 6 := ⟨eokC (tw5 (i := 18) rfl) (tw1 (i := 2) rfl) cne5 dsc51 (by decide), kokV (by decide) (tw5 (i := 17) rfl) rfl (pw5 (i := 8) rfl)⟩
def mE97 : ME := (yX5_isNamed, .code yX5_isNamed cX5_isNamed 2 (some FieldType.boolean), cX5_isNamed, 2, (some FieldType.boolean), [])
theorem dsc52 : (parseMethodDescriptor "(IZ)Z").map (fun s => s.parameters.length) = some 2 := by decide +kernel
theorem mK97 : EOK mE97 2 ∧ kindOK mE97 1000 := ⟨eokC (tw5 (i := 21) rfl) (tw1 (i := 2) rfl) cne5 dsc52 (by decide), kokS (tw5 (i := 20) rfl)⟩
def mE98 : ME := (yX5_escaped, .code yX5_escaped cX5_escaped 4 (some FieldType.int), cX5_escaped, 4, (some FieldType.int), [])
theorem mK98 : EOK mE98 1 ∧ kindOK mE98 6 := ⟨eokC (tw3 (i := 8) rfl) (tw1 (i := 2) rfl) cne5 dsc26 (by decide), kokV (by decide) (tw3 (i := 7) rfl) rfl (pw2 (i := 0) rfl)⟩
def mE99 : ME := (yX5_control, .code yX5_control cX5_control 1 (some FieldType.int), cX5_control, 1, (some FieldType.int), [])
theorem mK99 : EOK mE99 1 ∧ kindOK mE99 1000 := ⟨eokC (tw3 (i := 11) rfl) (tw1 (i := 2) rfl) cne5 dsc26 (by decide), kokS (tw3 (i := 10) rfl)⟩
def mE100 : ME := (yX5_hexFour, .code yX5_hexFour cX5_hexFour 6 (some FieldType.int), cX5_hexFour, 6, (some FieldType.int), [])
theorem dsc53 : (parseMethodDescriptor "(Z)I").map (fun s => s.parameters.length) = some 1 := by decide +kernel
theorem mK100 : EOK mE100 1 ∧ kindOK mE100 6 := ⟨eokC (tw3 (i := 15) rfl) (tw1 (i := 2) rfl) cne5 dsc53 (by decide), kokV (by decide) (tw3 (i := 14) rfl) rfl (pw2 (i := 1) rfl)⟩
def mE101 : ME := (yX5_hexValue, .code yX5_hexValue cX5_hexValue 1 (some FieldType.int), cX5_hexValue, 1, (some FieldType.int), [])
theorem mK101 : EOK mE101 1 ∧ kindOK mE101 1000 := ⟨eokC (tw3 (i := 18) rfl) (tw1 (i := 2) rfl) cne5 dsc26 (by decide), kokS (tw3 (i := 17) rfl)⟩
def mE102 : ME := (yX5_codePoint, .code yX5_codePoint cX5_codePoint 7 (some FieldType.int), cX5_codePoint, 7, (some FieldType.int), [])
theorem mK102 : EOK mE102 0 ∧ kindOK mE102 6 := ⟨eokC (tw3 (i := 25) rfl) (tw1 (i := 2) rfl) cne5 dsc2 (by decide), kokV (by decide) (tw3 (i := 24) rfl) rfl (pw2 (i := 2) rfl)⟩
def mE103 : ME := (yX5_followers, .code yX5_followers cX5_followers 1 (some FieldType.int), cX5_followers, 1, (some FieldType.int), [])
theorem mK103 : EOK mE103 1 ∧ kindOK mE103 1000 := ⟨eokC (tw3 (i := 28) rfl) (tw1 (i := 2) rfl) cne5 dsc26 (by decide), kokS (tw3 (i := 27) rfl)⟩
def mE104 : ME := (yX5_isShortest, .code yX5_isShortest cX5_isShortest 2 (some FieldType.boolean), cX5_isShortest, 2, (some FieldType.boolean), [])
theorem dsc54 : (parseMethodDescriptor "(II)Z").map (fun s => s.parameters.length) = some 2 := by decide +kernel
theorem mK104 : EOK mE104 2 ∧ kindOK mE104 1000 := ⟨eokC (tw3 (i := 35) rfl) (tw1 (i := 2) rfl) cne5 dsc54 (by decide), kokS (tw3 (i := 34) rfl)⟩
def mE105 : ME := (yX6_init, .code yX6_init cX6_init 1 none, cX6_init, 1, none, [])
theorem cne6 : ("PathHouse$Row" : String) ≠ "java/lang/invoke/MethodHandle" ∧ ("PathHouse$Row" : String) ≠ "java/lang/invoke/VarHandle" := ⟨by decide, by decide⟩
theorem mK105 : EOK mE105 0 ∧ kindOK mE105 2000 := ⟨eokC (tw5 (i := 69) rfl) (tw1 (i := 33) rfl) cne6 dsc0 (by decide), kokI (tw5 (i := 68) rfl) rfl rfl⟩
def mE106 : ME := (yX6_get, .code yX6_get cX6_get 2 (some (FieldType.object "PathHouse$Node")), cX6_get, 2, (some (FieldType.object "PathHouse$Node")), [])
theorem mK106 : EOK mE106 1 ∧ kindOK mE106 7 := ⟨eokC (tw5 (i := 95) rfl) (tw1 (i := 33) rfl) cne6 dsc1 (by decide), kokV (by decide) (tw5 (i := 94) rfl) rfl (pw5 (i := 15) rfl)⟩
def mE107 : ME := (yX6_add, .code yX6_add cX6_add 2 (some FieldType.boolean), cX6_add, 2, (some FieldType.boolean), [])
theorem dsc55 : (parseMethodDescriptor "(LPathHouse$Node;)Z").map (fun s => s.parameters.length) = some 1 := by decide +kernel
theorem mK107 : EOK mE107 1 ∧ kindOK mE107 7 := ⟨eokC (tw5 (i := 88) rfl) (tw1 (i := 33) rfl) cne6 dsc55 (by decide), kokV (by decide) (tw5 (i := 87) rfl) rfl (pw5 (i := 14) rfl)⟩
def mE108 : ME := (yX7_init, .code yX7_init cX7_init 1 none, cX7_init, 1, none, [])
theorem cne7 : ("PathHouse$Segment" : String) ≠ "java/lang/invoke/MethodHandle" ∧ ("PathHouse$Segment" : String) ≠ "java/lang/invoke/VarHandle" := ⟨by decide, by decide⟩
theorem mK108 : EOK mE108 0 ∧ kindOK mE108 2000 := ⟨eokC (tw3 (i := 223) rfl) (tw1 (i := 29) rfl) cne7 dsc0 (by decide), kokI (tw3 (i := 222) rfl) rfl rfl⟩
def mE109 : ME := (yX8_init, .code yX8_init cX8_init 2 none, cX8_init, 2, none, [])
theorem cne8 : ("PathHouse$Selector" : String) ≠ "java/lang/invoke/MethodHandle" ∧ ("PathHouse$Selector" : String) ≠ "java/lang/invoke/VarHandle" := ⟨by decide, by decide⟩
theorem mK109 : EOK mE109 1 ∧ kindOK mE109 2000 := ⟨eokC (tw4 (i := 15) rfl) (tw1 (i := 30) rfl) cne8 dsc4 (by decide), kokI (tw4 (i := 14) rfl) rfl rfl⟩
def mE110 : ME := (yX8_isSingular, .code yX8_isSingular cX8_isSingular 1 (some FieldType.boolean), cX8_isSingular, 1, (some FieldType.boolean), [])
theorem mK110 : EOK mE110 0 ∧ kindOK mE110 9 := ⟨eokC (tw5 (i := 10) rfl) (tw1 (i := 30) rfl) cne8 dsc36 (by decide), kokV (by decide) (tw5 (i := 9) rfl) rfl (pw5 (i := 6) rfl)⟩
def mE111 : ME := (yX9_init, .code yX9_init cX9_init 3 none, cX9_init, 3, none, [])
theorem cne9 : ("PathHouse$Term" : String) ≠ "java/lang/invoke/MethodHandle" ∧ ("PathHouse$Term" : String) ≠ "java/lang/invoke/VarHandle" := ⟨by decide, by decide⟩
theorem mK111 : EOK mE111 2 ∧ kindOK mE111 2000 := ⟨eokC (tw4 (i := 91) rfl) (tw1 (i := 31) rfl) cne9 dsc34 (by decide), kokI (tw4 (i := 90) rfl) rfl rfl⟩
def mE112 : ME := (yX9_partCount, .code yX9_partCount cX9_partCount 1 (some FieldType.int), cX9_partCount, 1, (some FieldType.int), [])
theorem mK112 : EOK mE112 0 ∧ kindOK mE112 10 := ⟨eokC (tw4 (i := 239) rfl) (tw1 (i := 31) rfl) cne9 dsc2 (by decide), kokV (by decide) (tw4 (i := 238) rfl) rfl (pw5 (i := 4) rfl)⟩
def mE113 : ME := (yX9_part, .code yX9_part cX9_part 2 (some (FieldType.object "PathHouse$Term")), cX9_part, 2, (some (FieldType.object "PathHouse$Term")), [])
theorem mK113 : EOK mE113 1 ∧ kindOK mE113 10 := ⟨eokC (tw5 (i := 4) rfl) (tw1 (i := 31) rfl) cne9 dsc47 (by decide), kokV (by decide) (tw5 (i := 3) rfl) rfl (pw5 (i := 5) rfl)⟩
def mE114 : ME := (yX9_simplest, .code yX9_simplest cX9_simplest 1 (some (FieldType.object "PathHouse$Term")), cX9_simplest, 1, (some (FieldType.object "PathHouse$Term")), [])
theorem mK114 : EOK mE114 0 ∧ kindOK mE114 10 := ⟨eokC (tw4 (i := 235) rfl) (tw1 (i := 31) rfl) cne9 dsc44 (by decide), kokV (by decide) (tw4 (i := 234) rfl) rfl (pw5 (i := 3) rfl)⟩
def mE115 : ME := (yX9_isFunction, .code yX9_isFunction cX9_isFunction 1 (some FieldType.boolean), cX9_isFunction, 1, (some FieldType.boolean), [])
theorem mK115 : EOK mE115 0 ∧ kindOK mE115 10 := ⟨eokC (tw4 (i := 194) rfl) (tw1 (i := 31) rfl) cne9 dsc36 (by decide), kokV (by decide) (tw4 (i := 193) rfl) rfl (pw4 (i := 11) rfl)⟩
def mE116 : ME := (yX9_isComparable, .code yX9_isComparable cX9_isComparable 1 (some FieldType.boolean), cX9_isComparable, 1, (some FieldType.boolean), [])
theorem mK116 : EOK mE116 0 ∧ kindOK mE116 10 := ⟨eokC (tw4 (i := 190) rfl) (tw1 (i := 31) rfl) cne9 dsc36 (by decide), kokV (by decide) (tw4 (i := 189) rfl) rfl (pw4 (i := 10) rfl)⟩
def mE117 : ME := (yX9_wants, .code yX9_wants cX9_wants 2 (some FieldType.boolean), cX9_wants, 2, (some FieldType.boolean), [])
theorem mK117 : EOK mE117 1 ∧ kindOK mE117 10 := ⟨eokC (tw4 (i := 203) rfl) (tw1 (i := 31) rfl) cne9 dsc48 (by decide), kokV (by decide) (tw4 (i := 202) rfl) rfl (pw4 (i := 13) rfl)⟩
def mE118 : ME := (yX10_init, .code yX10_init cX10_init 2 none, cX10_init, 2, none, [])
theorem cne10 : ("PathHouse$ValueReader" : String) ≠ "java/lang/invoke/MethodHandle" ∧ ("PathHouse$ValueReader" : String) ≠ "java/lang/invoke/VarHandle" := ⟨by decide, by decide⟩
theorem mK118 : EOK mE118 1 ∧ kindOK mE118 2000 := ⟨eokC (tw1 (i := 82) rfl) (tw1 (i := 3) rfl) cne10 dsc32 (by decide), kokI (tw1 (i := 81) rfl) rfl rfl⟩
def mE119 : ME := (yX10_whole, .code yX10_whole cX10_whole 2 (some (FieldType.object "PathHouse$Node")), cX10_whole, 2, (some (FieldType.object "PathHouse$Node")), [])
theorem dsc56 : (parseMethodDescriptor "()LPathHouse$Node;").map (fun s => s.parameters.length) = some 0 := by decide +kernel
theorem mK119 : EOK mE119 0 ∧ kindOK mE119 11 := ⟨eokC (tw1 (i := 210) rfl) (tw1 (i := 3) rfl) cne10 dsc56 (by decide), kokV (by decide) (tw1 (i := 209) rfl) rfl (pw1 (i := 3) rfl)⟩
def mE120 : ME := (yX10_readNode, .code yX10_readNode cX10_readNode 5 (some (FieldType.object "PathHouse$Node")), cX10_readNode, 5, (some (FieldType.object "PathHouse$Node")), [])
theorem dsc57 : (parseMethodDescriptor "(LPathHouse$Node;I)LPathHouse$Node;").map (fun s => s.parameters.length) = some 2 := by decide +kernel
theorem mK120 : EOK mE120 2 ∧ kindOK mE120 11 := ⟨eokC (tw1 (i := 226) rfl) (tw1 (i := 3) rfl) cne10 dsc57 (by decide), kokV (by decide) (tw1 (i := 225) rfl) rfl (pw1 (i := 7) rfl)⟩
def mE121 : ME := (yX10_kindBegunBy, .code yX10_kindBegunBy cX10_kindBegunBy 1 (some FieldType.int), cX10_kindBegunBy, 1, (some FieldType.int), [])
theorem mK121 : EOK mE121 1 ∧ kindOK mE121 1000 := ⟨eokC (tw1 (i := 230) rfl) (tw1 (i := 3) rfl) cne10 dsc26 (by decide), kokS (tw1 (i := 229) rfl)⟩
def mE122 : ME := (yX10_readRest, .code yX10_readRest cX10_readRest 2 none, cX10_readRest, 2, none, [])
theorem dsc58 : (parseMethodDescriptor "(LPathHouse$Node;)V").map (fun s => s.parameters.length) = some 1 := by decide +kernel
theorem mK122 : EOK mE122 1 ∧ kindOK mE122 11 := ⟨eokC (tw2 (i := 161) rfl) (tw1 (i := 3) rfl) cne10 dsc58 (by decide), kokV (by decide) (tw2 (i := 160) rfl) rfl (pw1 (i := 10) rfl)⟩
def mE123 : ME := (yX10_readInt, .code yX10_readInt cX10_readInt 4 (some FieldType.long), cX10_readInt, 4, (some FieldType.long), [])
theorem dsc59 : (parseMethodDescriptor "()J").map (fun s => s.parameters.length) = some 0 := by decide +kernel
theorem mK123 : EOK mE123 0 ∧ kindOK mE123 11 := ⟨eokC (tw2 (i := 225) rfl) (tw1 (i := 3) rfl) cne10 dsc59 (by decide), kokV (by decide) (tw2 (i := 224) rfl) rfl (pw1 (i := 13) rfl)⟩
def mE124 : ME := (yX10_takesEmpty, .code yX10_takesEmpty cX10_takesEmpty 2 (some FieldType.boolean), cX10_takesEmpty, 2, (some FieldType.boolean), [])
theorem mK124 : EOK mE124 1 ∧ kindOK mE124 11 := ⟨eokC (tw3 (i := 67) rfl) (tw1 (i := 3) rfl) cne10 dsc25 (by decide), kokV (by decide) (tw3 (i := 66) rfl) rfl (pw2 (i := 7) rfl)⟩
def mE125 : ME := (yX10_readElements, .code yX10_readElements cX10_readElements 4 none, cX10_readElements, 4, none, [])
theorem mK125 : EOK mE125 1 ∧ kindOK mE125 11 := ⟨eokC (tw3 (i := 63) rfl) (tw1 (i := 3) rfl) cne10 dsc58 (by decide), kokV (by decide) (tw3 (i := 62) rfl) rfl (pw2 (i := 6) rfl)⟩
def mE126 : ME := (yX10_readMembers, .code yX10_readMembers cX10_readMembers 4 none, cX10_readMembers, 4, none, [])
theorem mK126 : EOK mE126 1 ∧ kindOK mE126 11 := ⟨eokC (tw3 (i := 146) rfl) (tw1 (i := 3) rfl) cne10 dsc58 (by decide), kokV (by decide) (tw3 (i := 145) rfl) rfl (pw2 (i := 13) rfl)⟩
def mE127 : ME := (yX10_readMember, .code yX10_readMember cX10_readMember 4 none, cX10_readMember, 4, none, [])
theorem mK127 : EOK mE127 1 ∧ kindOK mE127 11 := ⟨eokC (tw3 (i := 150) rfl) (tw1 (i := 3) rfl) cne10 dsc58 (by decide), kokV (by decide) (tw3 (i := 149) rfl) rfl (pw2 (i := 14) rfl)⟩
def mE128 : ME := (yX11_init, .code yX11_init cX11_init 1 none, cX11_init, 1, none, [])
theorem cne11 : ("PathHouse" : String) ≠ "java/lang/invoke/MethodHandle" ∧ ("PathHouse" : String) ≠ "java/lang/invoke/VarHandle" := ⟨by decide, by decide⟩
theorem mK128 : EOK mE128 0 ∧ kindOK mE128 2000 := ⟨eokC (tw1 (i := 39) rfl) (tw1 (i := 1) rfl) cne11 dsc0 (by decide), kokI (tw1 (i := 38) rfl) rfl rfl⟩
def mE129 : ME := (yX11_feed, .code yX11_feed cX11_feed 6 (some FieldType.int), cX11_feed, 6, (some FieldType.int), [])
theorem dsc60 : (parseMethodDescriptor "(IIIII)I").map (fun s => s.parameters.length) = some 5 := by decide +kernel
theorem mK129 : EOK mE129 5 ∧ kindOK mE129 12 := ⟨eokC (tw1 (i := 186) rfl) (tw1 (i := 1) rfl) cne11 dsc60 (by decide), kokV (by decide) (tw1 (i := 184) rfl) rfl (tw1 (i := 185) rfl)⟩
def mE130 : ME := (yX11_json, .codeWith yX11_json cX11_json 3 (some FieldType.int) [(10, 21, 24, 72)], cX11_json, 3, (some FieldType.int), [(10, 21, 24, 72)])
theorem mK130 : EOK mE130 1 ∧ kindOK mE130 12 := ⟨eokW (tw1 (i := 194) rfl) (tw1 (i := 1) rfl) cne11 dsc26 (by decide), kokV (by decide) (tw1 (i := 192) rfl) rfl (tw1 (i := 193) rfl)⟩
def mE131 : ME := (yX11_query, .codeWith yX11_query cX11_query 3 (some FieldType.int) [(10, 21, 24, 72)], cX11_query, 3, (some FieldType.int), [(10, 21, 24, 72)])
theorem mK131 : EOK mE131 1 ∧ kindOK mE131 12 := ⟨eokW (tw3 (i := 178) rfl) (tw1 (i := 1) rfl) cne11 dsc26 (by decide), kokV (by decide) (tw3 (i := 176) rfl) rfl (tw3 (i := 177) rfl)⟩
def mE132 : ME := (yX11_fault, .code yX11_fault cX11_fault 2 (some FieldType.int), cX11_fault, 2, (some FieldType.int), [])
theorem mK132 : EOK mE132 1 ∧ kindOK mE132 12 := ⟨eokC (tw5 (i := 29) rfl) (tw1 (i := 1) rfl) cne11 dsc26 (by decide), kokV (by decide) (tw5 (i := 27) rfl) rfl (tw5 (i := 28) rfl)⟩
def mE133 : ME := (yX11_find, .code yX11_find cX11_find 1 (some FieldType.int), cX11_find, 1, (some FieldType.int), [])
theorem mK133 : EOK mE133 0 ∧ kindOK mE133 12 := ⟨eokC (tw5 (i := 33) rfl) (tw1 (i := 1) rfl) cne11 dsc2 (by decide), kokV (by decide) (tw5 (i := 31) rfl) rfl (tw5 (i := 32) rfl)⟩
def mE134 : ME := (yX11_found, .code yX11_found cX11_found 4 (some FieldType.int), cX11_found, 4, (some FieldType.int), [])
theorem dsc61 : (parseMethodDescriptor "(II)I").map (fun s => s.parameters.length) = some 2 := by decide +kernel
theorem mK134 : EOK mE134 2 ∧ kindOK mE134 12 := ⟨eokC (tw5 (i := 200) rfl) (tw1 (i := 1) rfl) cne11 dsc61 (by decide), kokV (by decide) (tw5 (i := 198) rfl) rfl (tw5 (i := 199) rfl)⟩
def mE135 : ME := (yX11_number, .code yX11_number cX11_number 3 (some FieldType.long), cX11_number, 3, (some FieldType.long), [])
theorem dsc62 : (parseMethodDescriptor "(I)J").map (fun s => s.parameters.length) = some 1 := by decide +kernel
theorem mK135 : EOK mE135 1 ∧ kindOK mE135 12 := ⟨eokC (tw5 (i := 209) rfl) (tw1 (i := 1) rfl) cne11 dsc62 (by decide), kokV (by decide) (tw5 (i := 207) rfl) rfl (tw5 (i := 208) rfl)⟩
def mE136 : ME := (yX11_path, .code yX11_path cX11_path 3 (some FieldType.int), cX11_path, 3, (some FieldType.int), [])
theorem mK136 : EOK mE136 1 ∧ kindOK mE136 12 := ⟨eokC (tw5 (i := 213) rfl) (tw1 (i := 1) rfl) cne11 dsc26 (by decide), kokV (by decide) (tw5 (i := 211) rfl) rfl (tw5 (i := 212) rfl)⟩
def mE137 : ME := (yX11_text, .code yX11_text cX11_text 3 (some FieldType.int), cX11_text, 3, (some FieldType.int), [])
theorem mK137 : EOK mE137 1 ∧ kindOK mE137 12 := ⟨eokC (tw6 (i := 19) rfl) (tw1 (i := 1) rfl) cne11 dsc26 (by decide), kokV (by decide) (tw6 (i := 17) rfl) rfl (tw6 (i := 18) rfl)⟩
def mE138 : ME := (yX11_out, .code yX11_out cX11_out 2 (some FieldType.int), cX11_out, 2, (some FieldType.int), [])
theorem mK138 : EOK mE138 1 ∧ kindOK mE138 12 := ⟨eokC (tw6 (i := 52) rfl) (tw1 (i := 1) rfl) cne11 dsc26 (by decide), kokV (by decide) (tw6 (i := 50) rfl) rfl (tw6 (i := 51) rfl)⟩
def mE139 : ME := (yX11_about, .code yX11_about cX11_about 2 (some FieldType.int), cX11_about, 2, (some FieldType.int), [])
theorem mK139 : EOK mE139 1 ∧ kindOK mE139 12 := ⟨eokC (tw6 (i := 37) rfl) (tw1 (i := 1) rfl) cne11 dsc26 (by decide), kokV (by decide) (tw6 (i := 35) rfl) rfl (tw6 (i := 36) rfl)⟩
def mE140 : ME := (yX11_tapeFour, .code yX11_tapeFour cX11_tapeFour 3 none, cX11_tapeFour, 3, none, [])
theorem mK140 : EOK mE140 1 ∧ kindOK mE140 12 := ⟨eokC (tw1 (i := 190) rfl) (tw1 (i := 1) rfl) cne11 dsc4 (by decide), kokV (by decide) (tw1 (i := 189) rfl) rfl (pw1 (i := 0) rfl)⟩
def mE141 : ME := (yX11_begin, .code yX11_begin cX11_begin 2 (some FieldType.boolean), cX11_begin, 2, (some FieldType.boolean), [])
theorem mK141 : EOK mE141 1 ∧ kindOK mE141 12 := ⟨eokC (tw1 (i := 199) rfl) (tw1 (i := 1) rfl) cne11 dsc25 (by decide), kokV (by decide) (tw1 (i := 198) rfl) rfl (pw1 (i := 1) rfl)⟩
def mE142 : ME := (yX11_isDigit, .code yX11_isDigit cX11_isDigit 1 (some FieldType.boolean), cX11_isDigit, 1, (some FieldType.boolean), [])
theorem mK142 : EOK mE142 1 ∧ kindOK mE142 1000 := ⟨eokC (tw1 (i := 233) rfl) (tw1 (i := 1) rfl) cne11 dsc25 (by decide), kokS (tw1 (i := 232) rfl)⟩
def mE143 : ME := (yX11_isSmall, .code yX11_isSmall cX11_isSmall 1 (some FieldType.boolean), cX11_isSmall, 1, (some FieldType.boolean), [])
theorem mK143 : EOK mE143 1 ∧ kindOK mE143 1000 := ⟨eokC (tw4 (i := 157) rfl) (tw1 (i := 1) rfl) cne11 dsc25 (by decide), kokS (tw4 (i := 156) rfl)⟩
def mE144 : ME := (yX11_isLetter, .code yX11_isLetter cX11_isLetter 1 (some FieldType.boolean), cX11_isLetter, 1, (some FieldType.boolean), [])
theorem mK144 : EOK mE144 1 ∧ kindOK mE144 1000 := ⟨eokC (tw5 (i := 24) rfl) (tw1 (i := 1) rfl) cne11 dsc25 (by decide), kokS (tw5 (i := 23) rfl)⟩
def mE145 : ME := (yX11_isBeyond, .code yX11_isBeyond cX11_isBeyond 2 (some FieldType.boolean), cX11_isBeyond, 2, (some FieldType.boolean), [])
theorem dsc63 : (parseMethodDescriptor "(J)Z").map (fun s => s.parameters.length) = some 1 := by decide +kernel
theorem mK145 : EOK mE145 1 ∧ kindOK mE145 1000 := ⟨eokC (tw2 (i := 238) rfl) (tw1 (i := 1) rfl) cne11 dsc63 (by decide), kokS (tw2 (i := 237) rfl)⟩
def mE146 : ME := (yX11_sameChars, .code yX11_sameChars cX11_sameChars 3 (some FieldType.boolean), cX11_sameChars, 3, (some FieldType.boolean), [])
theorem dsc64 : (parseMethodDescriptor "([I[I)Z").map (fun s => s.parameters.length) = some 2 := by decide +kernel
theorem mK146 : EOK mE146 2 ∧ kindOK mE146 1000 := ⟨eokC (tw3 (i := 170) rfl) (tw1 (i := 1) rfl) cne11 dsc64 (by decide), kokS (tw3 (i := 169) rfl)⟩
def mE147 : ME := (yX11_charsBefore, .code yX11_charsBefore cX11_charsBefore 4 (some FieldType.boolean), cX11_charsBefore, 4, (some FieldType.boolean), [])
theorem mK147 : EOK mE147 2 ∧ kindOK mE147 1000 := ⟨eokC (tw5 (i := 191) rfl) (tw1 (i := 1) rfl) cne11 dsc64 (by decide), kokS (tw5 (i := 190) rfl)⟩
def mE148 : ME := (yX12_init, .code yX12_init cX12_init 1 none, cX12_init, 1, none, [])
theorem cne12 : ("PathHouseModel$Parts" : String) ≠ "java/lang/invoke/MethodHandle" ∧ ("PathHouseModel$Parts" : String) ≠ "java/lang/invoke/VarHandle" := ⟨by decide, by decide⟩
theorem mK148 : EOK mE148 0 ∧ kindOK mE148 2000 := ⟨eokC (tw6 (i := 179) rfl) (tw1 (i := 13) rfl) cne12 dsc0 (by decide), kokI (tw6 (i := 178) rfl) rfl rfl⟩
def mE149 : ME := (yX13_init, .code yX13_init cX13_init 1 none, cX13_init, 1, none, [])
theorem cne13 : ("PathHouseModel$Rows" : String) ≠ "java/lang/invoke/MethodHandle" ∧ ("PathHouseModel$Rows" : String) ≠ "java/lang/invoke/VarHandle" := ⟨by decide, by decide⟩
theorem mK149 : EOK mE149 0 ∧ kindOK mE149 2000 := ⟨eokC (tw6 (i := 117) rfl) (tw1 (i := 12) rfl) cne13 dsc0 (by decide), kokI (tw6 (i := 116) rfl) rfl rfl⟩
def mE150 : ME := (yX14_init, .code yX14_init cX14_init 1 none, cX14_init, 1, none, [])
theorem cne14 : ("PathHouseModel$Stop" : String) ≠ "java/lang/invoke/MethodHandle" ∧ ("PathHouseModel$Stop" : String) ≠ "java/lang/invoke/VarHandle" := ⟨by decide, by decide⟩
theorem mK150 : EOK mE150 0 ∧ kindOK mE150 2000 := ⟨eokC (tw6 (i := 95) rfl) (tw1 (i := 11) rfl) cne14 dsc0 (by decide), kokI (tw6 (i := 94) rfl) rfl rfl⟩
def mE151 : ME := (yX15_init, .code yX15_init cX15_init 1 none, cX15_init, 1, none, [])
theorem cne15 : ("PathHouseModel" : String) ≠ "java/lang/invoke/MethodHandle" ∧ ("PathHouseModel" : String) ≠ "java/lang/invoke/VarHandle" := ⟨by decide, by decide⟩
theorem mK151 : EOK mE151 0 ∧ kindOK mE151 2000 := ⟨eokC (tw6 (i := 82) rfl) (tw1 (i := 7) rfl) cne15 dsc0 (by decide), kokI (tw6 (i := 81) rfl) rfl rfl⟩
def mE152 : ME := (yX15_thrown, .code yX15_thrown cX15_thrown 1 (some FieldType.int), cX15_thrown, 1, (some FieldType.int), [])
theorem mK152 : EOK mE152 0 ∧ kindOK mE152 16 := ⟨eokC (tw7 (i := 102) rfl) (tw1 (i := 7) rfl) cne15 dsc2 (by decide), kokV (by decide) (tw7 (i := 100) rfl) rfl (tw7 (i := 101) rfl)⟩
def mE153 : ME := (yX15_stop, .code yX15_stop cX15_stop 3 (some (FieldType.object "PathHouseModel$Stop")), cX15_stop, 3, (some (FieldType.object "PathHouseModel$Stop")), [])
theorem dsc65 : (parseMethodDescriptor "(II)LPathHouseModel$Stop;").map (fun s => s.parameters.length) = some 2 := by decide +kernel
theorem mK153 : EOK mE153 2 ∧ kindOK mE153 16 := ⟨eokC (tw7 (i := 144) rfl) (tw1 (i := 7) rfl) cne15 dsc65 (by decide), kokV (by decide) (tw7 (i := 143) rfl) rfl (pw8 (i := 6) rfl)⟩
def mE154 : ME := (yX15_feed, .code yX15_feed cX15_feed 8 (some FieldType.int), cX15_feed, 8, (some FieldType.int), [])
theorem mK154 : EOK mE154 5 ∧ kindOK mE154 16 := ⟨eokC (tw7 (i := 106) rfl) (tw1 (i := 7) rfl) cne15 dsc60 (by decide), kokV (by decide) (tw7 (i := 104) rfl) rfl (tw7 (i := 105) rfl)⟩
def mE155 : ME := (yX15_byteAt, .code yX15_byteAt cX15_byteAt 2 (some FieldType.int), cX15_byteAt, 2, (some FieldType.int), [])
theorem mK155 : EOK mE155 1 ∧ kindOK mE155 16 := ⟨eokC (tw7 (i := 126) rfl) (tw1 (i := 7) rfl) cne15 dsc26 (by decide), kokV (by decide) (tw7 (i := 125) rfl) rfl (pw8 (i := 3) rfl)⟩
def mE156 : ME := (yX15_peek, .code yX15_peek cX15_peek 1 (some FieldType.int), cX15_peek, 1, (some FieldType.int), [])
theorem mK156 : EOK mE156 0 ∧ kindOK mE156 16 := ⟨eokC (tw7 (i := 122) rfl) (tw1 (i := 7) rfl) cne15 dsc2 (by decide), kokV (by decide) (tw7 (i := 121) rfl) rfl (pw8 (i := 2) rfl)⟩
def mE157 : ME := (yX15_is, .code yX15_is cX15_is 2 (some FieldType.boolean), cX15_is, 2, (some FieldType.boolean), [])
theorem mK157 : EOK mE157 1 ∧ kindOK mE157 16 := ⟨eokC (tw7 (i := 118) rfl) (tw1 (i := 7) rfl) cne15 dsc25 (by decide), kokV (by decide) (tw7 (i := 117) rfl) rfl (pw8 (i := 1) rfl)⟩
def mE158 : ME := (yX15_bad, .code yX15_bad cX15_bad 1 (some (FieldType.object "PathHouseModel$Stop")), cX15_bad, 1, (some (FieldType.object "PathHouseModel$Stop")), [])
theorem dsc66 : (parseMethodDescriptor "()LPathHouseModel$Stop;").map (fun s => s.parameters.length) = some 0 := by decide +kernel
theorem mK158 : EOK mE158 0 ∧ kindOK mE158 16 := ⟨eokC (tw7 (i := 140) rfl) (tw1 (i := 7) rfl) cne15 dsc66 (by decide), kokV (by decide) (tw7 (i := 139) rfl) rfl (pw8 (i := 5) rfl)⟩
def mE159 : ME := (yX15_need, .code yX15_need cX15_need 2 none, cX15_need, 2, none, [])
theorem mK159 : EOK mE159 1 ∧ kindOK mE159 16 := ⟨eokC (tw7 (i := 156) rfl) (tw1 (i := 7) rfl) cne15 dsc4 (by decide), kokV (by decide) (tw7 (i := 155) rfl) rfl (pw8 (i := 8) rfl)⟩
def mE160 : ME := (yX15_blanks, .code yX15_blanks cX15_blanks 1 none, cX15_blanks, 1, none, [])
theorem mK160 : EOK mE160 0 ∧ kindOK mE160 16 := ⟨eokC (tw7 (i := 114) rfl) (tw1 (i := 7) rfl) cne15 dsc0 (by decide), kokV (by decide) (tw7 (i := 113) rfl) rfl (pw8 (i := 0) rfl)⟩
def mE161 : ME := (yX15_isDigit, .code yX15_isDigit cX15_isDigit 1 (some FieldType.boolean), cX15_isDigit, 1, (some FieldType.boolean), [])
theorem mK161 : EOK mE161 1 ∧ kindOK mE161 1000 := ⟨eokC (tw7 (i := 136) rfl) (tw1 (i := 7) rfl) cne15 dsc25 (by decide), kokS (tw7 (i := 135) rfl)⟩
def mE162 : ME := (yX15_isSmall, .code yX15_isSmall cX15_isSmall 1 (some FieldType.boolean), cX15_isSmall, 1, (some FieldType.boolean), [])
theorem mK162 : EOK mE162 1 ∧ kindOK mE162 1000 := ⟨eokC (tw8 (i := 57) rfl) (tw1 (i := 7) rfl) cne15 dsc25 (by decide), kokS (tw8 (i := 56) rfl)⟩
def mE163 : ME := (yX15_character, .code yX15_character cX15_character 6 (some FieldType.int), cX15_character, 6, (some FieldType.int), [])
theorem mK163 : EOK mE163 0 ∧ kindOK mE163 16 := ⟨eokC (tw7 (i := 189) rfl) (tw1 (i := 7) rfl) cne15 dsc2 (by decide), kokV (by decide) (tw7 (i := 188) rfl) rfl (pw8 (i := 14) rfl)⟩
def mE164 : ME := (yX15_keep, .code yX15_keep cX15_keep 2 none, cX15_keep, 2, none, [])
theorem mK164 : EOK mE164 1 ∧ kindOK mE164 16 := ⟨eokC (tw7 (i := 185) rfl) (tw1 (i := 7) rfl) cne15 dsc4 (by decide), kokV (by decide) (tw7 (i := 184) rfl) rfl (pw8 (i := 13) rfl)⟩
def mE165 : ME := (yX15_hex, .code yX15_hex cX15_hex 1 (some FieldType.int), cX15_hex, 1, (some FieldType.int), [])
theorem mK165 : EOK mE165 1 ∧ kindOK mE165 1000 := ⟨eokC (tw7 (i := 177) rfl) (tw1 (i := 7) rfl) cne15 dsc26 (by decide), kokS (tw7 (i := 176) rfl)⟩
def mE166 : ME := (yX15_hexDigit, .code yX15_hexDigit cX15_hexDigit 4 (some FieldType.int), cX15_hexDigit, 4, (some FieldType.int), [])
theorem mK166 : EOK mE166 2 ∧ kindOK mE166 16 := ⟨eokC (tw7 (i := 174) rfl) (tw1 (i := 7) rfl) cne15 dsc61 (by decide), kokV (by decide) (tw7 (i := 173) rfl) rfl (pw8 (i := 12) rfl)⟩
def mE167 : ME := (yX15_unit, .code yX15_unit cX15_unit 4 (some FieldType.int), cX15_unit, 4, (some FieldType.int), [])
theorem mK167 : EOK mE167 0 ∧ kindOK mE167 16 := ⟨eokC (tw7 (i := 170) rfl) (tw1 (i := 7) rfl) cne15 dsc2 (by decide), kokV (by decide) (tw7 (i := 169) rfl) rfl (pw8 (i := 11) rfl)⟩
def mE168 : ME := (yX15_escaped, .code yX15_escaped cX15_escaped 3 (some FieldType.int), cX15_escaped, 3, (some FieldType.int), [])
theorem mK168 : EOK mE168 1 ∧ kindOK mE168 16 := ⟨eokC (tw7 (i := 166) rfl) (tw1 (i := 7) rfl) cne15 dsc26 (by decide), kokV (by decide) (tw7 (i := 165) rfl) rfl (pw8 (i := 10) rfl)⟩
def mE169 : ME := (yX15_string, .code yX15_string cX15_string 3 (some FieldType.int), cX15_string, 3, (some FieldType.int), [])
theorem mK169 : EOK mE169 0 ∧ kindOK mE169 16 := ⟨eokC (tw7 (i := 162) rfl) (tw1 (i := 7) rfl) cne15 dsc2 (by decide), kokV (by decide) (tw7 (i := 161) rfl) rfl (pw8 (i := 9) rfl)⟩
def mE170 : ME := (yX15_areSame, .code yX15_areSame cX15_areSame 7 (some FieldType.boolean), cX15_areSame, 7, (some FieldType.boolean), [])
theorem dsc67 : (parseMethodDescriptor "(IIII)Z").map (fun s => s.parameters.length) = some 4 := by decide +kernel
theorem mK170 : EOK mE170 4 ∧ kindOK mE170 16 := ⟨eokC (tw7 (i := 207) rfl) (tw1 (i := 7) rfl) cne15 dsc67 (by decide), kokV (by decide) (tw7 (i := 206) rfl) rfl (pw9 (i := 2) rfl)⟩
def mE171 : ME := (yX15_integer, .code yX15_integer cX15_integer 5 none, cX15_integer, 5, none, [])
theorem mK171 : EOK mE171 1 ∧ kindOK mE171 16 := ⟨eokC (tw7 (i := 211) rfl) (tw1 (i := 7) rfl) cne15 dsc31 (by decide), kokV (by decide) (tw7 (i := 210) rfl) rfl (pw9 (i := 3) rfl)⟩
def mE172 : ME := (yX15_begins, .code yX15_begins cX15_begins 1 (some FieldType.boolean), cX15_begins, 1, (some FieldType.boolean), [])
theorem mK172 : EOK mE172 1 ∧ kindOK mE172 1000 := ⟨eokC (tw7 (i := 133) rfl) (tw1 (i := 7) rfl) cne15 dsc25 (by decide), kokS (tw7 (i := 132) rfl)⟩
def mE173 : ME := (yX15_word, .code yX15_word cX15_word 3 none, cX15_word, 3, none, [])
theorem mK173 : EOK mE173 1 ∧ kindOK mE173 16 := ⟨eokC (tw7 (i := 150) rfl) (tw1 (i := 7) rfl) cne15 dsc27 (by decide), kokV (by decide) (tw7 (i := 149) rfl) rfl (pw8 (i := 7) rfl)⟩
def mE174 : ME := (yX15_value, .code yX15_value cX15_value 6 (some FieldType.int), cX15_value, 6, (some FieldType.int), [])
theorem mK174 : EOK mE174 2 ∧ kindOK mE174 16 := ⟨eokC (tw7 (i := 130) rfl) (tw1 (i := 7) rfl) cne15 dsc61 (by decide), kokV (by decide) (tw7 (i := 129) rfl) rfl (pw8 (i := 4) rfl)⟩
def mE175 : ME := (yX15_hang, .code yX15_hang cX15_hang 3 none, cX15_hang, 3, none, [])
theorem mK175 : EOK mE175 2 ∧ kindOK mE175 16 := ⟨eokC (tw7 (i := 199) rfl) (tw1 (i := 7) rfl) cne15 dsc34 (by decide), kokV (by decide) (tw7 (i := 198) rfl) rfl (pw9 (i := 0) rfl)⟩
def mE176 : ME := (yX15_array, .code yX15_array cX15_array 4 none, cX15_array, 4, none, [])
theorem mK176 : EOK mE176 2 ∧ kindOK mE176 16 := ⟨eokC (tw7 (i := 195) rfl) (tw1 (i := 7) rfl) cne15 dsc34 (by decide), kokV (by decide) (tw7 (i := 194) rfl) rfl (pw8 (i := 15) rfl)⟩
def mE177 : ME := (yX15_object, .code yX15_object cX15_object 8 none, cX15_object, 8, none, [])
theorem mK177 : EOK mE177 2 ∧ kindOK mE177 16 := ⟨eokC (tw7 (i := 203) rfl) (tw1 (i := 7) rfl) cne15 dsc34 (by decide), kokV (by decide) (tw7 (i := 202) rfl) rfl (pw9 (i := 1) rfl)⟩
def mE178 : ME := (yX15_told, .code yX15_told cX15_told 3 (some FieldType.int), cX15_told, 3, (some FieldType.int), [])
theorem mK178 : EOK mE178 2 ∧ kindOK mE178 16 := ⟨eokC (tw7 (i := 218) rfl) (tw1 (i := 7) rfl) cne15 dsc61 (by decide), kokV (by decide) (tw7 (i := 217) rfl) rfl (pw9 (i := 4) rfl)⟩
def mE179 : ME := (yX15_json, .codeWith yX15_json cX15_json 3 (some FieldType.int) [(57, 88, 91, 9)], cX15_json, 3, (some FieldType.int), [(57, 88, 91, 9)])
theorem mK179 : EOK mE179 1 ∧ kindOK mE179 16 := ⟨eokW (tw7 (i := 110) rfl) (tw1 (i := 7) rfl) cne15 dsc26 (by decide), kokV (by decide) (tw7 (i := 108) rfl) rfl (tw7 (i := 109) rfl)⟩
def mE180 : ME := (yX15_fault, .code yX15_fault cX15_fault 2 (some FieldType.int), cX15_fault, 2, (some FieldType.int), [])
theorem mK180 : EOK mE180 1 ∧ kindOK mE180 16 := ⟨eokC (tw7 (i := 222) rfl) (tw1 (i := 7) rfl) cne15 dsc26 (by decide), kokV (by decide) (tw7 (i := 220) rfl) rfl (tw7 (i := 221) rfl)⟩
def mE181 : ME := (yX15_part, .code yX15_part cX15_part 3 (some FieldType.int), cX15_part, 3, (some FieldType.int), [])
theorem mK181 : EOK mE181 1 ∧ kindOK mE181 16 := ⟨eokC (tw7 (i := 234) rfl) (tw1 (i := 7) rfl) cne15 dsc26 (by decide), kokV (by decide) (tw7 (i := 233) rfl) rfl (pw9 (i := 6) rfl)⟩
def mE182 : ME := (yX15_late, .code yX15_late cX15_late 3 none, cX15_late, 3, none, [])
theorem mK182 : EOK mE182 2 ∧ kindOK mE182 16 := ⟨eokC (tw8 (i := 18) rfl) (tw1 (i := 7) rfl) cne15 dsc34 (by decide), kokV (by decide) (tw8 (i := 17) rfl) rfl (pw9 (i := 12) rfl)⟩
def mE183 : ME := (yX15_opens, .code yX15_opens cX15_opens 1 none, cX15_opens, 1, none, [])
theorem mK183 : EOK mE183 0 ∧ kindOK mE183 16 := ⟨eokC (tw8 (i := 26) rfl) (tw1 (i := 7) rfl) cne15 dsc0 (by decide), kokV (by decide) (tw8 (i := 25) rfl) rfl (pw9 (i := 14) rfl)⟩
def mE184 : ME := (yX15_isLetter, .code yX15_isLetter cX15_isLetter 2 (some FieldType.boolean), cX15_isLetter, 2, (some FieldType.boolean), [])
theorem mK184 : EOK mE184 1 ∧ kindOK mE184 16 := ⟨eokC (tw8 (i := 120) rfl) (tw1 (i := 7) rfl) cne15 dsc25 (by decide), kokV (by decide) (tw8 (i := 119) rfl) rfl (pw11 (i := 4) rfl)⟩
def mE185 : ME := (yX15_selected, .code yX15_selected cX15_selected 2 (some FieldType.long), cX15_selected, 2, (some FieldType.long), [])
theorem mK185 : EOK mE185 0 ∧ kindOK mE185 16 := ⟨eokC (tw8 (i := 14) rfl) (tw1 (i := 7) rfl) cne15 dsc59 (by decide), kokV (by decide) (tw8 (i := 13) rfl) rfl (pw9 (i := 11) rfl)⟩
def mE186 : ME := (yX15_isInteger, .code yX15_isInteger cX15_isInteger 1 (some FieldType.boolean), cX15_isInteger, 1, (some FieldType.boolean), [])
theorem mK186 : EOK mE186 0 ∧ kindOK mE186 16 := ⟨eokC (tw8 (i := 10) rfl) (tw1 (i := 7) rfl) cne15 dsc36 (by decide), kokV (by decide) (tw8 (i := 9) rfl) rfl (pw9 (i := 10) rfl)⟩
def mE187 : ME := (yX15_name, .code yX15_name cX15_name 3 (some FieldType.int), cX15_name, 3, (some FieldType.int), [])
theorem mK187 : EOK mE187 1 ∧ kindOK mE187 16 := ⟨eokC (tw8 (i := 6) rfl) (tw1 (i := 7) rfl) cne15 dsc26 (by decide), kokV (by decide) (tw8 (i := 5) rfl) rfl (pw9 (i := 9) rfl)⟩
def mE188 : ME := (yX15_slice, .code yX15_slice cX15_slice 2 (some FieldType.int), cX15_slice, 2, (some FieldType.int), [])
theorem mK188 : EOK mE188 1 ∧ kindOK mE188 16 := ⟨eokC (tw8 (i := 22) rfl) (tw1 (i := 7) rfl) cne15 dsc26 (by decide), kokV (by decide) (tw8 (i := 21) rfl) rfl (pw9 (i := 13) rfl)⟩
def mE189 : ME := (yX15_selector, .code yX15_selector cX15_selector 4 (some FieldType.int), cX15_selector, 4, (some FieldType.int), [])
theorem mK189 : EOK mE189 1 ∧ kindOK mE189 16 := ⟨eokC (tw8 (i := 2) rfl) (tw1 (i := 7) rfl) cne15 dsc53 (by decide), kokV (by decide) (tw8 (i := 1) rfl) rfl (pw9 (i := 8) rfl)⟩
def mE190 : ME := (yX15_bracketed, .code yX15_bracketed cX15_bracketed 6 (some FieldType.int), cX15_bracketed, 6, (some FieldType.int), [])
theorem mK190 : EOK mE190 1 ∧ kindOK mE190 16 := ⟨eokC (tw7 (i := 238) rfl) (tw1 (i := 7) rfl) cne15 dsc53 (by decide), kokV (by decide) (tw7 (i := 237) rfl) rfl (pw9 (i := 7) rfl)⟩
def mE191 : ME := (yX15_member, .code yX15_member cX15_member 2 (some FieldType.int), cX15_member, 2, (some FieldType.int), [])
theorem mK191 : EOK mE191 0 ∧ kindOK mE191 16 := ⟨eokC (tw8 (i := 116) rfl) (tw1 (i := 7) rfl) cne15 dsc2 (by decide), kokV (by decide) (tw8 (i := 115) rfl) rfl (pw11 (i := 3) rfl)⟩
def mE192 : ME := (yX15_segments, .code yX15_segments cX15_segments 10 (some FieldType.int), cX15_segments, 10, (some FieldType.int), [])
theorem dsc68 : (parseMethodDescriptor "(ZZ)I").map (fun s => s.parameters.length) = some 2 := by decide +kernel
theorem mK192 : EOK mE192 2 ∧ kindOK mE192 16 := ⟨eokC (tw7 (i := 230) rfl) (tw1 (i := 7) rfl) cne15 dsc68 (by decide), kokV (by decide) (tw7 (i := 229) rfl) rfl (pw9 (i := 5) rfl)⟩
def mE193 : ME := (yX15_path, .code yX15_path cX15_path 4 (some FieldType.int), cX15_path, 4, (some FieldType.int), [])
theorem mK193 : EOK mE193 1 ∧ kindOK mE193 16 := ⟨eokC (tw8 (i := 50) rfl) (tw1 (i := 7) rfl) cne15 dsc53 (by decide), kokV (by decide) (tw8 (i := 49) rfl) rfl (pw10 (i := 4) rfl)⟩
def mE194 : ME := (yX15_isPath, .code yX15_isPath cX15_isPath 1 (some FieldType.boolean), cX15_isPath, 1, (some FieldType.boolean), [])
theorem mK194 : EOK mE194 0 ∧ kindOK mE194 16 := ⟨eokC (tw8 (i := 46) rfl) (tw1 (i := 7) rfl) cne15 dsc36 (by decide), kokV (by decide) (tw8 (i := 45) rfl) rfl (pw10 (i := 3) rfl)⟩
def mE195 : ME := (yX15_literal, .code yX15_literal cX15_literal 3 (some FieldType.int), cX15_literal, 3, (some FieldType.int), [])
theorem mK195 : EOK mE195 0 ∧ kindOK mE195 16 := ⟨eokC (tw8 (i := 88) rfl) (tw1 (i := 7) rfl) cne15 dsc2 (by decide), kokV (by decide) (tw8 (i := 87) rfl) rfl (pw10 (i := 12) rfl)⟩
def mE196 : ME := (yX15_isLiteral, .code yX15_isLiteral cX15_isLiteral 1 (some FieldType.boolean), cX15_isLiteral, 1, (some FieldType.boolean), [])
theorem mK196 : EOK mE196 0 ∧ kindOK mE196 16 := ⟨eokC (tw8 (i := 84) rfl) (tw1 (i := 7) rfl) cne15 dsc36 (by decide), kokV (by decide) (tw8 (i := 83) rfl) rfl (pw10 (i := 11) rfl)⟩
def mE197 : ME := (yX15_isWord, .code yX15_isWord cX15_isWord 5 (some FieldType.boolean), cX15_isWord, 5, (some FieldType.boolean), [])
theorem dsc69 : (parseMethodDescriptor "(ILjava/lang/String;)Z").map (fun s => s.parameters.length) = some 2 := by decide +kernel
theorem mK197 : EOK mE197 2 ∧ kindOK mE197 16 := ⟨eokC (tw8 (i := 70) rfl) (tw1 (i := 7) rfl) cne15 dsc69 (by decide), kokV (by decide) (tw8 (i := 69) rfl) rfl (pw10 (i := 8) rfl)⟩
def mE198 : ME := (yX15_worded, .code yX15_worded cX15_worded 2 (some FieldType.int), cX15_worded, 2, (some FieldType.int), [])
theorem mK198 : EOK mE198 0 ∧ kindOK mE198 16 := ⟨eokC (tw8 (i := 92) rfl) (tw1 (i := 7) rfl) cne15 dsc2 (by decide), kokV (by decide) (tw8 (i := 91) rfl) rfl (pw10 (i := 13) rfl)⟩
def mE199 : ME := (yX15_isOrdered, .code yX15_isOrdered cX15_isOrdered 1 (some FieldType.boolean), cX15_isOrdered, 1, (some FieldType.boolean), [])
theorem mK199 : EOK mE199 0 ∧ kindOK mE199 16 := ⟨eokC (tw8 (i := 96) rfl) (tw1 (i := 7) rfl) cne15 dsc36 (by decide), kokV (by decide) (tw8 (i := 95) rfl) rfl (pw10 (i := 14) rfl)⟩
def mE200 : ME := (yX15_sign, .code yX15_sign cX15_sign 3 (some FieldType.int), cX15_sign, 3, (some FieldType.int), [])
theorem mK200 : EOK mE200 0 ∧ kindOK mE200 16 := ⟨eokC (tw8 (i := 104) rfl) (tw1 (i := 7) rfl) cne15 dsc2 (by decide), kokV (by decide) (tw8 (i := 103) rfl) rfl (pw11 (i := 0) rfl)⟩
def mE201 : ME := (yX15_comparable, .code yX15_comparable cX15_comparable 1 (some FieldType.int), cX15_comparable, 1, (some FieldType.int), [])
theorem mK201 : EOK mE201 0 ∧ kindOK mE201 16 := ⟨eokC (tw8 (i := 108) rfl) (tw1 (i := 7) rfl) cne15 dsc2 (by decide), kokV (by decide) (tw8 (i := 107) rfl) rfl (pw11 (i := 1) rfl)⟩
def mE202 : ME := (yX15_compared, .code yX15_compared cX15_compared 3 (some FieldType.int), cX15_compared, 3, (some FieldType.int), [])
theorem mK202 : EOK mE202 1 ∧ kindOK mE202 16 := ⟨eokC (tw8 (i := 100) rfl) (tw1 (i := 7) rfl) cne15 dsc26 (by decide), kokV (by decide) (tw8 (i := 99) rfl) rfl (pw10 (i := 15) rfl)⟩
def mE203 : ME := (yX15_tested, .code yX15_tested cX15_tested 4 (some FieldType.int), cX15_tested, 4, (some FieldType.int), [])
theorem mK203 : EOK mE203 2 ∧ kindOK mE203 16 := ⟨eokC (tw8 (i := 54) rfl) (tw1 (i := 7) rfl) cne15 dsc61 (by decide), kokV (by decide) (tw8 (i := 53) rfl) rfl (pw10 (i := 5) rfl)⟩
def mE204 : ME := (yX15_basicOf, .code yX15_basicOf cX15_basicOf 4 (some FieldType.int), cX15_basicOf, 4, (some FieldType.int), [])
theorem mK204 : EOK mE204 2 ∧ kindOK mE204 16 := ⟨eokC (tw8 (i := 112) rfl) (tw1 (i := 7) rfl) cne15 dsc61 (by decide), kokV (by decide) (tw8 (i := 111) rfl) rfl (pw11 (i := 2) rfl)⟩
def mE205 : ME := (yX15_bracket, .code yX15_bracket cX15_bracket 2 (some FieldType.int), cX15_bracket, 2, (some FieldType.int), [])
theorem mK205 : EOK mE205 0 ∧ kindOK mE205 16 := ⟨eokC (tw8 (i := 42) rfl) (tw1 (i := 7) rfl) cne15 dsc2 (by decide), kokV (by decide) (tw8 (i := 41) rfl) rfl (pw10 (i := 2) rfl)⟩
def mE206 : ME := (yX15_basic, .code yX15_basic cX15_basic 3 (some FieldType.int), cX15_basic, 3, (some FieldType.int), [])
theorem mK206 : EOK mE206 0 ∧ kindOK mE206 16 := ⟨eokC (tw8 (i := 38) rfl) (tw1 (i := 7) rfl) cne15 dsc2 (by decide), kokV (by decide) (tw8 (i := 37) rfl) rfl (pw10 (i := 1) rfl)⟩
def mE207 : ME := (yX15_negated, .code yX15_negated cX15_negated 2 (some FieldType.int), cX15_negated, 2, (some FieldType.int), [])
theorem mK207 : EOK mE207 1 ∧ kindOK mE207 16 := ⟨eokC (tw8 (i := 61) rfl) (tw1 (i := 7) rfl) cne15 dsc26 (by decide), kokV (by decide) (tw8 (i := 60) rfl) rfl (pw10 (i := 6) rfl)⟩
def mE208 : ME := (yX15_operand, .code yX15_operand cX15_operand 1 (some FieldType.int), cX15_operand, 1, (some FieldType.int), [])
theorem mK208 : EOK mE208 0 ∧ kindOK mE208 16 := ⟨eokC (tw8 (i := 80) rfl) (tw1 (i := 7) rfl) cne15 dsc2 (by decide), kokV (by decide) (tw8 (i := 79) rfl) rfl (pw10 (i := 10) rfl)⟩
def mE209 : ME := (yX15_all, .code yX15_all cX15_all 6 (some FieldType.int), cX15_all, 6, (some FieldType.int), [])
theorem mK209 : EOK mE209 1 ∧ kindOK mE209 16 := ⟨eokC (tw8 (i := 34) rfl) (tw1 (i := 7) rfl) cne15 dsc26 (by decide), kokV (by decide) (tw8 (i := 33) rfl) rfl (pw10 (i := 0) rfl)⟩
def mE210 : ME := (yX15_any, .code yX15_any cX15_any 6 (some FieldType.int), cX15_any, 6, (some FieldType.int), [])
theorem mK210 : EOK mE210 1 ∧ kindOK mE210 16 := ⟨eokC (tw8 (i := 30) rfl) (tw1 (i := 7) rfl) cne15 dsc26 (by decide), kokV (by decide) (tw8 (i := 29) rfl) rfl (pw9 (i := 15) rfl)⟩
def mE211 : ME := (yX15_argument, .code yX15_argument cX15_argument 6 (some FieldType.int), cX15_argument, 6, (some FieldType.int), [])
theorem mK211 : EOK mE211 0 ∧ kindOK mE211 16 := ⟨eokC (tw8 (i := 76) rfl) (tw1 (i := 7) rfl) cne15 dsc2 (by decide), kokV (by decide) (tw8 (i := 75) rfl) rfl (pw10 (i := 9) rfl)⟩
def mE212 : ME := (yX15_function, .code yX15_function cX15_function 9 (some FieldType.int), cX15_function, 9, (some FieldType.int), [])
theorem mK212 : EOK mE212 1 ∧ kindOK mE212 16 := ⟨eokC (tw8 (i := 65) rfl) (tw1 (i := 7) rfl) cne15 dsc26 (by decide), kokV (by decide) (tw8 (i := 64) rfl) rfl (pw10 (i := 7) rfl)⟩
def mE213 : ME := (yX15_query, .codeWith yX15_query cX15_query 3 (some FieldType.int) [(59, 94, 97, 9)], cX15_query, 3, (some FieldType.int), [(59, 94, 97, 9)])
theorem mK213 : EOK mE213 1 ∧ kindOK mE213 16 := ⟨eokW (tw7 (i := 226) rfl) (tw1 (i := 7) rfl) cne15 dsc26 (by decide), kokV (by decide) (tw7 (i := 224) rfl) rfl (tw7 (i := 225) rfl)⟩
def mE214 : ME := (yX15_look, .code yX15_look cX15_look 1 none, cX15_look, 1, none, [])
theorem mK214 : EOK mE214 0 ∧ kindOK mE214 16 := ⟨eokC (tw8 (i := 136) rfl) (tw1 (i := 7) rfl) cne15 dsc0 (by decide), kokV (by decide) (tw8 (i := 135) rfl) rfl (pw11 (i := 7) rfl)⟩
def mE215 : ME := (yX15_comes, .code yX15_comes cX15_comes 2 none, cX15_comes, 2, none, [])
theorem mK215 : EOK mE215 1 ∧ kindOK mE215 16 := ⟨eokC (tw8 (i := 149) rfl) (tw1 (i := 7) rfl) cne15 dsc4 (by decide), kokV (by decide) (tw8 (i := 148) rfl) rfl (pw11 (i := 10) rfl)⟩
def mE216 : ME := (yX15_nodes, .code yX15_nodes cX15_nodes 10 (some FieldType.int), cX15_nodes, 10, (some FieldType.int), [])
theorem dsc70 : (parseMethodDescriptor "(III)I").map (fun s => s.parameters.length) = some 3 := by decide +kernel
theorem mK216 : EOK mE216 3 ∧ kindOK mE216 16 := ⟨eokC (tw8 (i := 128) rfl) (tw1 (i := 7) rfl) cne15 dsc70 (by decide), kokV (by decide) (tw8 (i := 127) rfl) rfl (pw11 (i := 5) rfl)⟩
def mE217 : ME := (yX15_down, .code yX15_down cX15_down 5 none, cX15_down, 5, none, [])
theorem dsc71 : (parseMethodDescriptor "(III)V").map (fun s => s.parameters.length) = some 3 := by decide +kernel
theorem mK217 : EOK mE217 3 ∧ kindOK mE217 16 := ⟨eokC (tw8 (i := 132) rfl) (tw1 (i := 7) rfl) cne15 dsc71 (by decide), kokV (by decide) (tw8 (i := 131) rfl) rfl (pw11 (i := 6) rfl)⟩
def mE218 : ME := (yX15_asked, .code yX15_asked cX15_asked 7 none, cX15_asked, 7, none, [])
theorem mK218 : EOK mE218 3 ∧ kindOK mE218 16 := ⟨eokC (tw8 (i := 141) rfl) (tw1 (i := 7) rfl) cne15 dsc71 (by decide), kokV (by decide) (tw8 (i := 140) rfl) rfl (pw11 (i := 8) rfl)⟩
def mE219 : ME := (yX15_named, .code yX15_named cX15_named 5 (some FieldType.int), cX15_named, 5, (some FieldType.int), [])
theorem mK219 : EOK mE219 3 ∧ kindOK mE219 16 := ⟨eokC (tw8 (i := 145) rfl) (tw1 (i := 7) rfl) cne15 dsc70 (by decide), kokV (by decide) (tw8 (i := 144) rfl) rfl (pw11 (i := 9) rfl)⟩
def mE220 : ME := (yX15_element, .code yX15_element cX15_element 5 (some FieldType.int), cX15_element, 5, (some FieldType.int), [])
theorem mK220 : EOK mE220 2 ∧ kindOK mE220 16 := ⟨eokC (tw8 (i := 153) rfl) (tw1 (i := 7) rfl) cne15 dsc61 (by decide), kokV (by decide) (tw8 (i := 152) rfl) rfl (pw11 (i := 11) rfl)⟩
def mE221 : ME := (yX15_within, .code yX15_within cX15_within 6 (some FieldType.long), cX15_within, 6, (some FieldType.long), [])
theorem dsc72 : (parseMethodDescriptor "(JJJ)J").map (fun s => s.parameters.length) = some 3 := by decide +kernel
theorem mK221 : EOK mE221 3 ∧ kindOK mE221 1000 := ⟨eokC (tw8 (i := 161) rfl) (tw1 (i := 7) rfl) cne15 dsc72 (by decide), kokS (tw8 (i := 160) rfl)⟩
def mE222 : ME := (yX15_sliced, .code yX15_sliced cX15_sliced 18 none, cX15_sliced, 18, none, [])
theorem mK222 : EOK mE222 2 ∧ kindOK mE222 16 := ⟨eokC (tw8 (i := 157) rfl) (tw1 (i := 7) rfl) cne15 dsc34 (by decide), kokV (by decide) (tw8 (i := 156) rfl) rfl (pw11 (i := 12) rfl)⟩
def mE223 : ME := (yX15_filtered, .code yX15_filtered cX15_filtered 8 none, cX15_filtered, 8, none, [])
theorem mK223 : EOK mE223 3 ∧ kindOK mE223 16 := ⟨eokC (tw8 (i := 165) rfl) (tw1 (i := 7) rfl) cne15 dsc71 (by decide), kokV (by decide) (tw8 (i := 164) rfl) rfl (pw11 (i := 13) rfl)⟩
def mE224 : ME := (yX15_isTrue, .code yX15_isTrue cX15_isTrue 6 (some FieldType.boolean), cX15_isTrue, 6, (some FieldType.boolean), [])
theorem dsc73 : (parseMethodDescriptor "(III)Z").map (fun s => s.parameters.length) = some 3 := by decide +kernel
theorem mK224 : EOK mE224 3 ∧ kindOK mE224 16 := ⟨eokC (tw8 (i := 169) rfl) (tw1 (i := 7) rfl) cne15 dsc73 (by decide), kokV (by decide) (tw8 (i := 168) rfl) rfl (pw11 (i := 14) rfl)⟩
def mE225 : ME := (yX15_pathOf, .code yX15_pathOf cX15_pathOf 4 (some FieldType.int), cX15_pathOf, 4, (some FieldType.int), [])
theorem mK225 : EOK mE225 3 ∧ kindOK mE225 16 := ⟨eokC (tw8 (i := 173) rfl) (tw1 (i := 7) rfl) cne15 dsc70 (by decide), kokV (by decide) (tw8 (i := 172) rfl) rfl (pw11 (i := 15) rfl)⟩
def mE226 : ME := (yX15_ofValue, .code yX15_ofValue cX15_ofValue 2 none, cX15_ofValue, 2, none, [])
theorem mK226 : EOK mE226 1 ∧ kindOK mE226 16 := ⟨eokC (tw8 (i := 189) rfl) (tw1 (i := 7) rfl) cne15 dsc4 (by decide), kokV (by decide) (tw8 (i := 188) rfl) rfl (pw12 (i := 3) rfl)⟩
def mE227 : ME := (yX15_ofNumber, .code yX15_ofNumber cX15_ofNumber 3 none, cX15_ofNumber, 3, none, [])
theorem mK227 : EOK mE227 1 ∧ kindOK mE227 16 := ⟨eokC (tw8 (i := 185) rfl) (tw1 (i := 7) rfl) cne15 dsc28 (by decide), kokV (by decide) (tw8 (i := 184) rfl) rfl (pw12 (i := 2) rfl)⟩
def mE228 : ME := (yX15_comesTo, .code yX15_comesTo cX15_comesTo 6 none, cX15_comesTo, 6, none, [])
theorem mK228 : EOK mE228 3 ∧ kindOK mE228 16 := ⟨eokC (tw8 (i := 181) rfl) (tw1 (i := 7) rfl) cne15 dsc71 (by decide), kokV (by decide) (tw8 (i := 180) rfl) rfl (pw12 (i := 1) rfl)⟩
def mE229 : ME := (yX15_compares, .code yX15_compares cX15_compares 13 (some FieldType.boolean), cX15_compares, 13, (some FieldType.boolean), [])
theorem mK229 : EOK mE229 3 ∧ kindOK mE229 16 := ⟨eokC (tw8 (i := 177) rfl) (tw1 (i := 7) rfl) cne15 dsc73 (by decide), kokV (by decide) (tw8 (i := 176) rfl) rfl (pw12 (i := 0) rfl)⟩
def mE230 : ME := (yX15_isLess, .code yX15_isLess cX15_isLess 12 (some FieldType.boolean), cX15_isLess, 12, (some FieldType.boolean), [])
theorem dsc74 : (parseMethodDescriptor "(IJIIIJII)Z").map (fun s => s.parameters.length) = some 8 := by decide +kernel
theorem mK230 : EOK mE230 8 ∧ kindOK mE230 16 := ⟨eokC (tw8 (i := 205) rfl) (tw1 (i := 7) rfl) cne15 dsc74 (by decide), kokV (by decide) (tw8 (i := 204) rfl) rfl (pw12 (i := 7) rfl)⟩
def mE231 : ME := (yX15_alike, .code yX15_alike cX15_alike 13 (some FieldType.boolean), cX15_alike, 13, (some FieldType.boolean), [])
theorem dsc75 : (parseMethodDescriptor "(IJIIIIJIII)Z").map (fun s => s.parameters.length) = some 10 := by decide +kernel
theorem mK231 : EOK mE231 10 ∧ kindOK mE231 16 := ⟨eokC (tw8 (i := 193) rfl) (tw1 (i := 7) rfl) cne15 dsc75 (by decide), kokV (by decide) (tw8 (i := 192) rfl) rfl (pw12 (i := 4) rfl)⟩
def mE232 : ME := (yX15_areAlike, .code yX15_areAlike cX15_areAlike 6 (some FieldType.boolean), cX15_areAlike, 6, (some FieldType.boolean), [])
theorem mK232 : EOK mE232 2 ∧ kindOK mE232 16 := ⟨eokC (tw8 (i := 197) rfl) (tw1 (i := 7) rfl) cne15 dsc54 (by decide), kokV (by decide) (tw8 (i := 196) rfl) rfl (pw12 (i := 5) rfl)⟩
def mE233 : ME := (yX15_areSameValues, .code yX15_areSameValues cX15_areSameValues 3 (some FieldType.boolean), cX15_areSameValues, 3, (some FieldType.boolean), [])
theorem mK233 : EOK mE233 2 ∧ kindOK mE233 16 := ⟨eokC (tw8 (i := 201) rfl) (tw1 (i := 7) rfl) cne15 dsc54 (by decide), kokV (by decide) (tw8 (i := 200) rfl) rfl (pw12 (i := 6) rfl)⟩
def mE234 : ME := (yX15_find, .codeWith yX15_find cX15_find 3 (some FieldType.int) [(31, 45, 48, 9)], cX15_find, 3, (some FieldType.int), [(31, 45, 48, 9)])
theorem mK234 : EOK mE234 0 ∧ kindOK mE234 16 := ⟨eokW (tw8 (i := 124) rfl) (tw1 (i := 7) rfl) cne15 dsc2 (by decide), kokV (by decide) (tw8 (i := 122) rfl) rfl (tw8 (i := 123) rfl)⟩
def mE235 : ME := (yX15_isFound, .code yX15_isFound cX15_isFound 2 (some FieldType.boolean), cX15_isFound, 2, (some FieldType.boolean), [])
theorem mK235 : EOK mE235 1 ∧ kindOK mE235 16 := ⟨eokC (tw8 (i := 213) rfl) (tw1 (i := 7) rfl) cne15 dsc25 (by decide), kokV (by decide) (tw8 (i := 212) rfl) rfl (pw12 (i := 8) rfl)⟩
def mE236 : ME := (yX15_steps, .code yX15_steps cX15_steps 2 (some FieldType.int), cX15_steps, 2, (some FieldType.int), [])
theorem mK236 : EOK mE236 1 ∧ kindOK mE236 16 := ⟨eokC (tw8 (i := 217) rfl) (tw1 (i := 7) rfl) cne15 dsc26 (by decide), kokV (by decide) (tw8 (i := 216) rfl) rfl (pw12 (i := 9) rfl)⟩
def mE237 : ME := (yX15_found, .code yX15_found cX15_found 5 (some FieldType.int), cX15_found, 5, (some FieldType.int), [])
theorem mK237 : EOK mE237 2 ∧ kindOK mE237 16 := ⟨eokC (tw8 (i := 209) rfl) (tw1 (i := 7) rfl) cne15 dsc61 (by decide), kokV (by decide) (tw8 (i := 207) rfl) rfl (tw8 (i := 208) rfl)⟩
def mE238 : ME := (yX15_number, .code yX15_number cX15_number 2 (some FieldType.long), cX15_number, 2, (some FieldType.long), [])
theorem mK238 : EOK mE238 1 ∧ kindOK mE238 16 := ⟨eokC (tw8 (i := 221) rfl) (tw1 (i := 7) rfl) cne15 dsc62 (by decide), kokV (by decide) (tw8 (i := 219) rfl) rfl (tw8 (i := 220) rfl)⟩
def mE239 : ME := (yX15_put, .code yX15_put cX15_put 2 none, cX15_put, 2, none, [])
theorem mK239 : EOK mE239 1 ∧ kindOK mE239 16 := ⟨eokC (tw8 (i := 229) rfl) (tw1 (i := 7) rfl) cne15 dsc4 (by decide), kokV (by decide) (tw8 (i := 228) rfl) rfl (pw12 (i := 10) rfl)⟩
def mE240 : ME := (yX15_say, .code yX15_say cX15_say 3 none, cX15_say, 3, none, [])
theorem mK240 : EOK mE240 1 ∧ kindOK mE240 16 := ⟨eokC (tw9 (i := 14) rfl) (tw1 (i := 7) rfl) cne15 dsc27 (by decide), kokV (by decide) (tw9 (i := 13) rfl) rfl (pw12 (i := 15) rfl)⟩
def mE241 : ME := (yX15_sayNumber, .code yX15_sayNumber cX15_sayNumber 7 none, cX15_sayNumber, 7, none, [])
theorem mK241 : EOK mE241 1 ∧ kindOK mE241 16 := ⟨eokC (tw8 (i := 233) rfl) (tw1 (i := 7) rfl) cne15 dsc28 (by decide), kokV (by decide) (tw8 (i := 232) rfl) rfl (pw12 (i := 11) rfl)⟩
def mE242 : ME := (yX15_sayCharacter, .code yX15_sayCharacter cX15_sayCharacter 4 none, cX15_sayCharacter, 4, none, [])
theorem mK242 : EOK mE242 2 ∧ kindOK mE242 16 := ⟨eokC (tw9 (i := 2) rfl) (tw1 (i := 7) rfl) cne15 dsc34 (by decide), kokV (by decide) (tw9 (i := 1) rfl) rfl (pw12 (i := 13) rfl)⟩
def mE243 : ME := (yX15_sayText, .code yX15_sayText cX15_sayText 5 none, cX15_sayText, 5, none, [])
theorem mK243 : EOK mE243 3 ∧ kindOK mE243 16 := ⟨eokC (tw8 (i := 238) rfl) (tw1 (i := 7) rfl) cne15 dsc71 (by decide), kokV (by decide) (tw8 (i := 237) rfl) rfl (pw12 (i := 12) rfl)⟩
def mE244 : ME := (yX15_path_, .code yX15_path_ cX15_path_ 4 (some FieldType.int), cX15_path_, 4, (some FieldType.int), [])
theorem mK244 : EOK mE244 1 ∧ kindOK mE244 16 := ⟨eokC (tw8 (i := 225) rfl) (tw1 (i := 7) rfl) cne15 dsc26 (by decide), kokV (by decide) (tw8 (i := 223) rfl) rfl (tw8 (i := 224) rfl)⟩
def mE245 : ME := (yX15_sayValue, .code yX15_sayValue cX15_sayValue 4 none, cX15_sayValue, 4, none, [])
theorem mK245 : EOK mE245 1 ∧ kindOK mE245 16 := ⟨eokC (tw9 (i := 10) rfl) (tw1 (i := 7) rfl) cne15 dsc4 (by decide), kokV (by decide) (tw9 (i := 9) rfl) rfl (pw12 (i := 14) rfl)⟩
def mE246 : ME := (yX15_text, .code yX15_text cX15_text 2 (some FieldType.int), cX15_text, 2, (some FieldType.int), [])
theorem mK246 : EOK mE246 1 ∧ kindOK mE246 16 := ⟨eokC (tw9 (i := 6) rfl) (tw1 (i := 7) rfl) cne15 dsc26 (by decide), kokV (by decide) (tw9 (i := 4) rfl) rfl (tw9 (i := 5) rfl)⟩
def mE247 : ME := (yX15_out, .code yX15_out cX15_out 2 (some FieldType.int), cX15_out, 2, (some FieldType.int), [])
theorem mK247 : EOK mE247 1 ∧ kindOK mE247 16 := ⟨eokC (tw9 (i := 18) rfl) (tw1 (i := 7) rfl) cne15 dsc26 (by decide), kokV (by decide) (tw9 (i := 16) rfl) rfl (tw9 (i := 17) rfl)⟩
def mE248 : ME := (yX15_about, .code yX15_about cX15_about 2 (some FieldType.int), cX15_about, 2, (some FieldType.int), [])
theorem mK248 : EOK mE248 1 ∧ kindOK mE248 16 := ⟨eokC (tw9 (i := 22) rfl) (tw1 (i := 7) rfl) cne15 dsc26 (by decide), kokV (by decide) (tw9 (i := 20) rfl) rfl (tw9 (i := 21) rfl)⟩
def mE249 : ME := (yJ9_abs_067f4, .code yJ9_abs_067f4 cJ9_abs_067f4 2 (some FieldType.long), cJ9_abs_067f4, 2, (some FieldType.long), [])
theorem cne16 : ("java/lang/Math" : String) ≠ "java/lang/invoke/MethodHandle" ∧ ("java/lang/Math" : String) ≠ "java/lang/invoke/VarHandle" := ⟨by decide, by decide⟩
theorem dsc76 : (parseMethodDescriptor "(J)J").map (fun s => s.parameters.length) = some 1 := by decide +kernel
theorem mK249 : EOK mE249 1 ∧ kindOK mE249 1000 := ⟨eokC (tw6 (i := 13) rfl) (tw1 (i := 14) rfl) cne16 dsc76 (by decide), kokS (tw6 (i := 12) rfl)⟩
def mE250 : ME := (yJ9_max_7cf53, .code yJ9_max_7cf53 cJ9_max_7cf53 2 (some FieldType.int), cJ9_max_7cf53, 2, (some FieldType.int), [])
theorem mK250 : EOK mE250 2 ∧ kindOK mE250 1000 := ⟨eokC (tw3 (i := 97) rfl) (tw1 (i := 14) rfl) cne16 dsc61 (by decide), kokS (tw3 (i := 96) rfl)⟩
def mE251 : ME := (yJ9_max_f86c9, .code yJ9_max_f86c9 cJ9_max_f86c9 4 (some FieldType.long), cJ9_max_f86c9, 4, (some FieldType.long), [])
theorem dsc77 : (parseMethodDescriptor "(JJ)J").map (fun s => s.parameters.length) = some 2 := by decide +kernel
theorem mK251 : EOK mE251 2 ∧ kindOK mE251 1000 := ⟨eokC (tw5 (i := 143) rfl) (tw1 (i := 14) rfl) cne16 dsc77 (by decide), kokS (tw5 (i := 142) rfl)⟩
def mE252 : ME := (yJ9_min_7cf53, .code yJ9_min_7cf53 cJ9_min_7cf53 2 (some FieldType.int), cJ9_min_7cf53, 2, (some FieldType.int), [])
theorem mK252 : EOK mE252 2 ∧ kindOK mE252 1000 := ⟨eokC (tw1 (i := 206) rfl) (tw1 (i := 14) rfl) cne16 dsc61 (by decide), kokS (tw1 (i := 205) rfl)⟩
def mE253 : ME := (yJ9_min_f86c9, .code yJ9_min_f86c9 cJ9_min_f86c9 4 (some FieldType.long), cJ9_min_f86c9, 4, (some FieldType.long), [])
theorem mK253 : EOK mE253 2 ∧ kindOK mE253 1000 := ⟨eokC (tw2 (i := 235) rfl) (tw1 (i := 14) rfl) cne16 dsc77 (by decide), kokS (tw2 (i := 234) rfl)⟩
def mE254 : ME := (yJ0_length_8abf5, .code yJ0_length_8abf5 cJ0_length_8abf5 1 (some FieldType.int), cJ0_length_8abf5, 1, (some FieldType.int), [])
theorem cne17 : ("java/lang/String" : String) ≠ "java/lang/invoke/MethodHandle" ∧ ("java/lang/String" : String) ≠ "java/lang/invoke/VarHandle" := ⟨by decide, by decide⟩
theorem mK254 : EOK mE254 0 ∧ kindOK mE254 3000 := ⟨eokC (tw2 (i := 170) rfl) (tw1 (i := 20) rfl) cne17 dsc2 (by decide), kokN⟩
def mE255 : ME := (yJ0_charAt_5068e, .code yJ0_charAt_5068e cJ0_charAt_5068e 2 (some FieldType.char), cJ0_charAt_5068e, 2, (some FieldType.char), [])
theorem dsc78 : (parseMethodDescriptor "(I)C").map (fun s => s.parameters.length) = some 1 := by decide +kernel
theorem mK255 : EOK mE255 1 ∧ kindOK mE255 3000 := ⟨eokC (tw2 (i := 180) rfl) (tw1 (i := 20) rfl) cne17 dsc78 (by decide), kokN⟩
def mE256 : ME := (yJ0_coder_7d493, .code yJ0_coder_7d493 cJ0_coder_7d493 1 (some FieldType.byte), cJ0_coder_7d493, 1, (some FieldType.byte), [])
theorem dsc79 : (parseMethodDescriptor "()B").map (fun s => s.parameters.length) = some 0 := by decide +kernel
theorem mK256 : EOK mE256 0 ∧ kindOK mE256 3000 := ⟨eokC (tw2 (i := 174) rfl) (tw1 (i := 20) rfl) cne17 dsc79 (by decide), kokN⟩
def mE257 : ME := (yJ0_isLatin1_aae02, .code yJ0_isLatin1_aae02 cJ0_isLatin1_aae02 1 (some FieldType.boolean), cJ0_isLatin1_aae02, 1, (some FieldType.boolean), [])
theorem mK257 : EOK mE257 0 ∧ kindOK mE257 3000 := ⟨eokC (tw2 (i := 184) rfl) (tw1 (i := 20) rfl) cne17 dsc36 (by decide), kokN⟩
def mE258 : ME := (yJ0_checkIndex_df160, .code yJ0_checkIndex_df160 cJ0_checkIndex_df160 2 none, cJ0_checkIndex_df160, 2, none, [])
theorem mK258 : EOK mE258 2 ∧ kindOK mE258 1000 := ⟨eokC (tw2 (i := 190) rfl) (tw1 (i := 20) rfl) cne17 dsc34 (by decide), kokS (tw2 (i := 189) rfl)⟩
def mE259 : ME := (yJ1_charAt_3b067, .code yJ1_charAt_3b067 cJ1_charAt_3b067 2 (some FieldType.char), cJ1_charAt_3b067, 2, (some FieldType.char), [])
theorem cne18 : ("java/lang/StringLatin1" : String) ≠ "java/lang/invoke/MethodHandle" ∧ ("java/lang/StringLatin1" : String) ≠ "java/lang/invoke/VarHandle" := ⟨by decide, by decide⟩
theorem dsc80 : (parseMethodDescriptor "([BI)C").map (fun s => s.parameters.length) = some 2 := by decide +kernel
theorem mK259 : EOK mE259 2 ∧ kindOK mE259 1000 := ⟨eokC (tw2 (i := 187) rfl) (tw1 (i := 21) rfl) cne18 dsc80 (by decide), kokS (tw2 (i := 186) rfl)⟩
def mE260 : ME := (yJ2_getChar_3b067, .code yJ2_getChar_3b067 cJ2_getChar_3b067 2 (some FieldType.char), cJ2_getChar_3b067, 2, (some FieldType.char), [])
theorem cne19 : ("java/lang/StringUTF16" : String) ≠ "java/lang/invoke/MethodHandle" ∧ ("java/lang/StringUTF16" : String) ≠ "java/lang/invoke/VarHandle" := ⟨by decide, by decide⟩
theorem mK260 : EOK mE260 2 ∧ kindOK mE260 1000 := ⟨eokC (tw2 (i := 208) rfl) (tw1 (i := 23) rfl) cne19 dsc80 (by decide), kokS (tw2 (i := 207) rfl)⟩
def mE261 : ME := (yJ2_length_9d52b, .code yJ2_length_9d52b cJ2_length_9d52b 1 (some FieldType.int), cJ2_length_9d52b, 1, (some FieldType.int), [])
theorem dsc81 : (parseMethodDescriptor "([B)I").map (fun s => s.parameters.length) = some 1 := by decide +kernel
theorem mK261 : EOK mE261 1 ∧ kindOK mE261 1000 := ⟨eokC (tw2 (i := 204) rfl) (tw1 (i := 23) rfl) cne19 dsc81 (by decide), kokS (tw2 (i := 203) rfl)⟩
def mE262 : ME := (yJ2_charAt_3b067, .code yJ2_charAt_3b067 cJ2_charAt_3b067 2 (some FieldType.char), cJ2_charAt_3b067, 2, (some FieldType.char), [])
theorem mK262 : EOK mE262 2 ∧ kindOK mE262 1000 := ⟨eokC (tw2 (i := 198) rfl) (tw1 (i := 23) rfl) cne19 dsc80 (by decide), kokS (tw2 (i := 197) rfl)⟩
def mE263 : ME := (yJ2_checkIndex_2214a, .code yJ2_checkIndex_2214a cJ2_checkIndex_2214a 2 none, cJ2_checkIndex_2214a, 2, none, [])
theorem dsc82 : (parseMethodDescriptor "(I[B)V").map (fun s => s.parameters.length) = some 2 := by decide +kernel
theorem mK263 : EOK mE263 2 ∧ kindOK mE263 1000 := ⟨eokC (tw2 (i := 201) rfl) (tw1 (i := 23) rfl) cne19 dsc82 (by decide), kokS (tw2 (i := 200) rfl)⟩
def mE264 : ME := (yJxa1e45_init_da8c8, .code yJxa1e45_init_da8c8 cJxa1e45_init_da8c8 1 none, cJxa1e45_init_da8c8, 1, none, [])
theorem cne20 : ("java/util/AbstractCollection" : String) ≠ "java/lang/invoke/MethodHandle" ∧ ("java/util/AbstractCollection" : String) ≠ "java/lang/invoke/VarHandle" := ⟨by decide, by decide⟩
theorem mK264 : EOK mE264 0 ∧ kindOK mE264 2000 := ⟨eokC (tw2 (i := 82) rfl) (tw1 (i := 17) rfl) cne20 dsc0 (by decide), kokI (tw2 (i := 81) rfl) rfl rfl⟩
def mE265 : ME := (yJxc12de_init_da8c8, .code yJxc12de_init_da8c8 cJxc12de_init_da8c8 1 none, cJxc12de_init_da8c8, 1, none, [])
theorem cne21 : ("java/util/AbstractList" : String) ≠ "java/lang/invoke/MethodHandle" ∧ ("java/util/AbstractList" : String) ≠ "java/lang/invoke/VarHandle" := ⟨by decide, by decide⟩
theorem mK265 : EOK mE265 0 ∧ kindOK mE265 2000 := ⟨eokC (tw2 (i := 79) rfl) (tw1 (i := 18) rfl) cne21 dsc0 (by decide), kokI (tw2 (i := 78) rfl) rfl rfl⟩
def mE266 : ME := (yJx4a65c_init_da8c8, .code yJx4a65c_init_da8c8 cJx4a65c_init_da8c8 1 none, cJx4a65c_init_da8c8, 1, none, [])
theorem cne22 : ("java/util/ArrayList" : String) ≠ "java/lang/invoke/MethodHandle" ∧ ("java/util/ArrayList" : String) ≠ "java/lang/invoke/VarHandle" := ⟨by decide, by decide⟩
theorem mK266 : EOK mE266 0 ∧ kindOK mE266 2000 := ⟨eokC (tw2 (i := 76) rfl) (tw1 (i := 19) rfl) cne22 dsc0 (by decide), kokI (tw2 (i := 75) rfl) rfl rfl⟩
def mE267 : ME := (yJx4a65c_grow_92f84, .code yJx4a65c_grow_92f84 cJx4a65c_grow_92f84 4 (some (FieldType.array (FieldType.object "java/lang/Object"))), cJx4a65c_grow_92f84, 4, (some (FieldType.array (FieldType.object "java/lang/Object"))), [])
theorem dsc83 : (parseMethodDescriptor "(I)[Ljava/lang/Object;").map (fun s => s.parameters.length) = some 1 := by decide +kernel
theorem mK267 : EOK mE267 1 ∧ kindOK mE267 0 := ⟨eokC (tw3 (i := 91) rfl) (tw1 (i := 19) rfl) cne22 dsc83 (by decide), kokV (by decide) (tw3 (i := 90) rfl) rfl (pw2 (i := 11) rfl)⟩
def mE268 : ME := (yJx4a65c_grow_d5877, .code yJx4a65c_grow_d5877 cJx4a65c_grow_d5877 1 (some (FieldType.array (FieldType.object "java/lang/Object"))), cJx4a65c_grow_d5877, 1, (some (FieldType.array (FieldType.object "java/lang/Object"))), [])
theorem dsc84 : (parseMethodDescriptor "()[Ljava/lang/Object;").map (fun s => s.parameters.length) = some 0 := by decide +kernel
theorem mK268 : EOK mE268 0 ∧ kindOK mE268 0 := ⟨eokC (tw3 (i := 87) rfl) (tw1 (i := 19) rfl) cne22 dsc84 (by decide), kokV (by decide) (tw3 (i := 86) rfl) rfl (pw2 (i := 10) rfl)⟩
def mE269 : ME := (yJx4a65c_size_8abf5, .code yJx4a65c_size_8abf5 cJx4a65c_size_8abf5 1 (some FieldType.int), cJx4a65c_size_8abf5, 1, (some FieldType.int), [])
theorem mK269 : EOK mE269 0 ∧ kindOK mE269 0 := ⟨eokC (tw3 (i := 75) rfl) (tw1 (i := 19) rfl) cne22 dsc2 (by decide), kokV (by decide) (tw3 (i := 73) rfl) rfl (tw3 (i := 74) rfl)⟩
def mE270 : ME := (yJx4a65c_elementData_915e3, .code yJx4a65c_elementData_915e3 cJx4a65c_elementData_915e3 2 (some (FieldType.object "java/lang/Object")), cJx4a65c_elementData_915e3, 2, (some (FieldType.object "java/lang/Object")), [])
theorem dsc85 : (parseMethodDescriptor "(I)Ljava/lang/Object;").map (fun s => s.parameters.length) = some 1 := by decide +kernel
theorem mK270 : EOK mE270 1 ∧ kindOK mE270 0 := ⟨eokC (tw3 (i := 166) rfl) (tw1 (i := 19) rfl) cne22 dsc85 (by decide), kokV (by decide) (tw3 (i := 164) rfl) rfl (tw3 (i := 165) rfl)⟩
def mE271 : ME := (yJx4a65c_get_915e3, .code yJx4a65c_get_915e3 cJx4a65c_get_915e3 2 (some (FieldType.object "java/lang/Object")), cJx4a65c_get_915e3, 2, (some (FieldType.object "java/lang/Object")), [])
theorem mK271 : EOK mE271 1 ∧ kindOK mE271 0 := ⟨eokC (tw3 (i := 158) rfl) (tw1 (i := 19) rfl) cne22 dsc85 (by decide), kokV (by decide) (tw3 (i := 156) rfl) rfl (tw3 (i := 157) rfl)⟩
def mE272 : ME := (yJx4a65c_add_72be8, .code yJx4a65c_add_72be8 cJx4a65c_add_72be8 4 none, cJx4a65c_add_72be8, 4, none, [])
theorem dsc86 : (parseMethodDescriptor "(Ljava/lang/Object;[Ljava/lang/Object;I)V").map (fun s => s.parameters.length) = some 3 := by decide +kernel
theorem mK272 : EOK mE272 3 ∧ kindOK mE272 0 := ⟨eokC (tw3 (i := 83) rfl) (tw1 (i := 19) rfl) cne22 dsc86 (by decide), kokV (by decide) (tw3 (i := 82) rfl) rfl (pw2 (i := 9) rfl)⟩
def mE273 : ME := (yJx4a65c_add_9ea2d, .code yJx4a65c_add_9ea2d cJx4a65c_add_9ea2d 2 (some FieldType.boolean), cJx4a65c_add_9ea2d, 2, (some FieldType.boolean), [])
theorem dsc87 : (parseMethodDescriptor "(Ljava/lang/Object;)Z").map (fun s => s.parameters.length) = some 1 := by decide +kernel
theorem mK273 : EOK mE273 1 ∧ kindOK mE273 0 := ⟨eokC (tw3 (i := 79) rfl) (tw1 (i := 19) rfl) cne22 dsc87 (by decide), kokV (by decide) (tw3 (i := 77) rfl) rfl (tw3 (i := 78) rfl)⟩
def mE274 : ME := (yJ7_copyOf_1904c, .code yJ7_copyOf_1904c cJ7_copyOf_1904c 2 (some (FieldType.array (FieldType.object "java/lang/Object"))), cJ7_copyOf_1904c, 2, (some (FieldType.array (FieldType.object "java/lang/Object"))), [])
theorem cne23 : ("java/util/Arrays" : String) ≠ "java/lang/invoke/MethodHandle" ∧ ("java/util/Arrays" : String) ≠ "java/lang/invoke/VarHandle" := ⟨by decide, by decide⟩
theorem dsc88 : (parseMethodDescriptor "([Ljava/lang/Object;I)[Ljava/lang/Object;").map (fun s => s.parameters.length) = some 2 := by decide +kernel
theorem mK274 : EOK mE274 2 ∧ kindOK mE274 1000 := ⟨eokC (tw3 (i := 104) rfl) (tw1 (i := 24) rfl) cne23 dsc88 (by decide), kokS (tw3 (i := 103) rfl)⟩
def mE275 : ME := (yJ7_copyOf_6403c, .code yJ7_copyOf_6403c cJ7_copyOf_6403c 4 (some (FieldType.array (FieldType.object "java/lang/Object"))), cJ7_copyOf_6403c, 4, (some (FieldType.array (FieldType.object "java/lang/Object"))), [])
theorem dsc89 : (parseMethodDescriptor "([Ljava/lang/Object;ILjava/lang/Class;)[Ljava/lang/Object;").map (fun s => s.parameters.length) = some 3 := by decide +kernel
theorem mK275 : EOK mE275 3 ∧ kindOK mE275 1000 := ⟨eokC (tw3 (i := 131) rfl) (tw1 (i := 24) rfl) cne23 dsc89 (by decide), kokS (tw3 (i := 130) rfl)⟩
def mE276 : ME := (yJ7_copyOf_59c91, .code yJ7_copyOf_59c91 cJ7_copyOf_59c91 3 (some (FieldType.array FieldType.int)), cJ7_copyOf_59c91, 3, (some (FieldType.array FieldType.int)), [])
theorem dsc90 : (parseMethodDescriptor "([II)[I").map (fun s => s.parameters.length) = some 2 := by decide +kernel
theorem mK276 : EOK mE276 2 ∧ kindOK mE276 1000 := ⟨eokC (tw3 (i := 48) rfl) (tw1 (i := 24) rfl) cne23 dsc90 (by decide), kokS (tw3 (i := 47) rfl)⟩
def mE277 : ME := (yJ15_checkIndex_7cf53, .code yJ15_checkIndex_7cf53 cJ15_checkIndex_7cf53 2 (some FieldType.int), cJ15_checkIndex_7cf53, 2, (some FieldType.int), [])
theorem cne24 : ("java/util/Objects" : String) ≠ "java/lang/invoke/MethodHandle" ∧ ("java/util/Objects" : String) ≠ "java/lang/invoke/VarHandle" := ⟨by decide, by decide⟩
theorem mK277 : EOK mE277 2 ∧ kindOK mE277 1000 := ⟨eokC (tw3 (i := 161) rfl) (tw1 (i := 27) rfl) cne24 dsc61 (by decide), kokS (tw3 (i := 160) rfl)⟩
def mE278 : ME := (yJ8_newLength_cabcc, .code yJ8_newLength_cabcc cJ8_newLength_cabcc 4 (some FieldType.int), cJ8_newLength_cabcc, 4, (some FieldType.int), [])
theorem cne25 : ("jdk/internal/util/ArraysSupport" : String) ≠ "java/lang/invoke/MethodHandle" ∧ ("jdk/internal/util/ArraysSupport" : String) ≠ "java/lang/invoke/VarHandle" := ⟨by decide, by decide⟩
theorem mK278 : EOK mE278 3 ∧ kindOK mE278 1000 := ⟨eokC (tw3 (i := 94) rfl) (tw1 (i := 26) rfl) cne25 dsc70 (by decide), kokS (tw3 (i := 93) rfl)⟩
def mE279 : ME := (yJ8_hugeLength_7cf53, .code yJ8_hugeLength_7cf53 cJ8_hugeLength_7cf53 3 (some FieldType.int), cJ8_hugeLength_7cf53, 3, (some FieldType.int), [])
theorem mK279 : EOK mE279 2 ∧ kindOK mE279 1000 := ⟨eokC (tw3 (i := 101) rfl) (tw1 (i := 26) rfl) cne25 dsc61 (by decide), kokS (tw3 (i := 100) rfl)⟩
def mE280 : ME := (yJ3_checkIndex_8e157, .code yJ3_checkIndex_8e157 cJ3_checkIndex_8e157 3 (some FieldType.int), cJ3_checkIndex_8e157, 3, (some FieldType.int), [])
theorem cne26 : ("jdk/internal/util/Preconditions" : String) ≠ "java/lang/invoke/MethodHandle" ∧ ("jdk/internal/util/Preconditions" : String) ≠ "java/lang/invoke/VarHandle" := ⟨by decide, by decide⟩
theorem dsc91 : (parseMethodDescriptor "(IILjava/util/function/BiFunction;)I").map (fun s => s.parameters.length) = some 3 := by decide +kernel
theorem mK280 : EOK mE280 3 ∧ kindOK mE280 1000 := ⟨eokC (tw2 (i := 195) rfl) (tw1 (i := 22) rfl) cne26 dsc91 (by decide), kokS (tw2 (i := 194) rfl)⟩
def mE281 : ME := (yL_out, .codeWith yL_out cL_out 4 (some FieldType.int) [(0, 9, 12, 13)], cL_out, 4, (some FieldType.int), [(0, 9, 12, 13)])
theorem cne27 : ("PathHouseLaw" : String) ≠ "java/lang/invoke/MethodHandle" ∧ ("PathHouseLaw" : String) ≠ "java/lang/invoke/VarHandle" := ⟨by decide, by decide⟩
theorem dsc92 : (parseMethodDescriptor "(LPathHouse;I[J)I").map (fun s => s.parameters.length) = some 3 := by decide +kernel
theorem mK281 : EOK mE281 3 ∧ kindOK mE281 1000 := ⟨eokW (tw6 (i := 47) rfl) (tw1 (i := 0) rfl) cne27 dsc92 (by decide), kokS (tw6 (i := 46) rfl)⟩
def mE282 : ME := (yT_rt, .code yT_rt cT_rt 5 none, cT_rt, 5, none, [])
theorem cne28 : ("java/lang/RuntimeException" : String) ≠ "java/lang/invoke/MethodHandle" ∧ ("java/lang/RuntimeException" : String) ≠ "java/lang/invoke/VarHandle" := ⟨by decide, by decide⟩
theorem dsc93 : (parseMethodDescriptor "(Ljava/lang/String;Ljava/lang/Throwable;ZZ)V").map (fun s => s.parameters.length) = some 4 := by decide +kernel
theorem mK282 : EOK mE282 4 ∧ kindOK mE282 2000 := ⟨eokC (tw6 (i := 98) rfl) (tw1 (i := 10) rfl) cne28 dsc93 (by decide), kokI (tw6 (i := 97) rfl) rfl rfl⟩
def mE283 : ME := (yT_ex, .code yT_ex cT_ex 5 none, cT_ex, 5, none, [])
theorem cne29 : ("java/lang/Exception" : String) ≠ "java/lang/invoke/MethodHandle" ∧ ("java/lang/Exception" : String) ≠ "java/lang/invoke/VarHandle" := ⟨by decide, by decide⟩
theorem mK283 : EOK mE283 4 ∧ kindOK mE283 2000 := ⟨eokC (tw6 (i := 101) rfl) (tw1 (i := 9) rfl) cne29 dsc93 (by decide), kokI (tw6 (i := 100) rfl) rfl rfl⟩
def mE284 : ME := (yT_th, .code yT_th cT_th 5 none, cT_th, 5, none, [])
theorem cne30 : ("java/lang/Throwable" : String) ≠ "java/lang/invoke/MethodHandle" ∧ ("java/lang/Throwable" : String) ≠ "java/lang/invoke/VarHandle" := ⟨by decide, by decide⟩
theorem mK284 : EOK mE284 4 ∧ kindOK mE284 2000 := ⟨eokC (tw6 (i := 104) rfl) (tw1 (i := 8) rfl) cne30 dsc93 (by decide), kokI (tw6 (i := 103) rfl) rfl rfl⟩
def mtab : List ME := [mE0, mE1, mE2, mE3, mE4, mE5, mE6, mE7, mE8, mE9, mE10, mE11, mE12, mE13, mE14, mE15, mE16, mE17, mE18, mE19, mE20, mE21, mE22, mE23, mE24, mE25, mE26, mE27, mE28, mE29, mE30, mE31, mE32, mE33, mE34, mE35, mE36, mE37, mE38, mE39, mE40, mE41, mE42, mE43, mE44, mE45, mE46, mE47, mE48, mE49, mE50, mE51, mE52, mE53, mE54, mE55, mE56, mE57, mE58, mE59, mE60, mE61, mE62, mE63, mE64, mE65, mE66, mE67, mE68, mE69, mE70, mE71, mE72, mE73, mE74, mE75, mE76, mE77, mE78, mE79, mE80, mE81, mE82, mE83, mE84, mE85, mE86, mE87, mE88, mE89, mE90, mE91, mE92, mE93, mE94, mE95, mE96, mE97, mE98, mE99, mE100, mE101, mE102, mE103, mE104, mE105, mE106, mE107, mE108, mE109, mE110, mE111, mE112, mE113, mE114, mE115, mE116, mE117, mE118, mE119, mE120, mE121, mE122, mE123, mE124, mE125, mE126, mE127, mE128, mE129, mE130, mE131, mE132, mE133, mE134, mE135, mE136, mE137, mE138, mE139, mE140, mE141, mE142, mE143, mE144, mE145, mE146, mE147, mE148, mE149, mE150, mE151, mE152, mE153, mE154, mE155, mE156, mE157, mE158, mE159, mE160, mE161, mE162, mE163, mE164, mE165, mE166, mE167, mE168, mE169, mE170, mE171, mE172, mE173, mE174, mE175, mE176, mE177, mE178, mE179, mE180, mE181, mE182, mE183, mE184, mE185, mE186, mE187, mE188, mE189, mE190, mE191, mE192, mE193, mE194, mE195, mE196, mE197, mE198, mE199, mE200, mE201, mE202, mE203, mE204, mE205, mE206, mE207, mE208, mE209, mE210, mE211, mE212, mE213, mE214, mE215, mE216, mE217, mE218, mE219, mE220, mE221, mE222, mE223, mE224, mE225, mE226, mE227, mE228, mE229, mE230, mE231, mE232, mE233, mE234, mE235, mE236, mE237, mE238, mE239, mE240, mE241, mE242, mE243, mE244, mE245, mE246, mE247, mE248, mE249, mE250, mE251, mE252, mE253, mE254, mE255, mE256, mE257, mE258, mE259, mE260, mE261, mE262, mE263, mE264, mE265, mE266, mE267, mE268, mE269, mE270, mE271, mE272, mE273, mE274, mE275, mE276, mE277, mE278, mE279, mE280, mE281, mE282, mE283, mE284]
def mt : List (Nat × Nat × Nat) := [(0, 2000, 0), (0, 1, 0), (1, 1, 3), (0, 1, 1), (2, 1, 1), (1, 1, 0), (0, 1, 0), (2, 1, 0), (1, 1, 3), (3, 1, 3), (4, 1, 0), (4, 1, 0), (4, 1, 0), (2, 1, 0), (4, 1, 0), (3, 1, 0), (4, 1000, 2), (3, 1, 1), (3, 1, 1), (3, 1, 3), (3, 1, 3), (2, 1000, 3), (2, 1000, 3), (3, 1, 1), (2, 1000, 1), (3, 1, 1), (4, 2000, 0), (0, 2, 1), (1, 2, 3), (0, 2, 1), (2, 2, 0), (1, 2, 3), (1, 2, 3), (0, 2, 1), (0, 2000, 0), (0, 3, 0), (1, 3, 1), (1, 3, 1), (1, 3, 0), (1, 3, 0), (1, 3, 0), (2, 3, 0), (1, 3, 0), (1, 3, 0), (2, 3, 0), (2, 3, 0), (2, 3, 0), (1, 2000, 0), (1, 2000, 0), (0, 5, 3), (2, 5, 0), (0, 5, 0), (1, 5, 2), (0, 5, 1), (0, 5, 1), (2, 5, 1), (2, 5, 0), (2, 5, 1), (2, 5, 1), (1, 5, 3), (1, 5, 3), (2, 5, 3), (0, 5, 3), (1, 5, 3), (1, 5, 3), (1, 5, 1), (0, 5, 3), (0, 5, 3), (0, 5, 3), (1, 5, 3), (1, 5, 3), (0, 5, 1), (1, 5, 3), (0, 5, 1), (1, 5, 3), (2, 1000, 3), (0, 5, 3), (1, 5, 3), (1, 5, 1), (0, 5, 3), (1, 5, 1), (1, 2000, 0), (1, 6, 0), (2, 6, 0), (1, 6, 1), (0, 6, 1), (0, 6, 1), (0, 6, 0), (1, 6, 0), (1, 6, 0), (3, 6, 1), (0, 6, 1), (1, 6, 2), (1, 6, 0), (0, 6, 3), (0, 6, 3), (0, 6, 3), (2, 1000, 1), (1, 6, 1), (1, 1000, 1), (1, 6, 1), (1, 1000, 1), (0, 6, 1), (1, 1000, 1), (2, 1000, 1), (0, 2000, 0), (1, 7, 3), (1, 7, 1), (0, 2000, 0), (1, 2000, 0), (0, 9, 1), (2, 2000, 0), (0, 10, 1), (1, 10, 3), (0, 10, 3), (0, 10, 1), (0, 10, 1), (1, 10, 1), (1, 2000, 0), (0, 11, 3), (2, 11, 3), (1, 1000, 1), (1, 11, 0), (0, 11, 2), (1, 11, 1), (1, 11, 0), (1, 11, 0), (1, 11, 0), (0, 2000, 0), (5, 12, 1), (1, 12, 1), (1, 12, 1), (1, 12, 1), (0, 12, 1), (2, 12, 1), (1, 12, 2), (1, 12, 1), (1, 12, 1), (1, 12, 1), (1, 12, 1), (1, 12, 0), (1, 12, 1), (1, 1000, 1), (1, 1000, 1), (1, 1000, 1), (1, 1000, 1), (2, 1000, 1), (2, 1000, 1), (0, 2000, 0), (0, 2000, 0), (0, 2000, 0), (0, 2000, 0), (0, 16, 1), (2, 16, 3), (5, 16, 1), (1, 16, 1), (0, 16, 1), (1, 16, 1), (0, 16, 3), (1, 16, 0), (0, 16, 0), (1, 1000, 1), (1, 1000, 1), (0, 16, 1), (1, 16, 0), (1, 1000, 1), (2, 16, 1), (0, 16, 1), (1, 16, 1), (0, 16, 1), (4, 16, 1), (1, 16, 0), (1, 1000, 1), (1, 16, 0), (2, 16, 1), (2, 16, 0), (2, 16, 0), (2, 16, 0), (2, 16, 1), (1, 16, 1), (1, 16, 1), (1, 16, 1), (2, 16, 0), (0, 16, 0), (1, 16, 1), (0, 16, 2), (0, 16, 1), (1, 16, 1), (1, 16, 1), (1, 16, 1), (1, 16, 1), (0, 16, 1), (2, 16, 1), (1, 16, 1), (0, 16, 1), (0, 16, 1), (0, 16, 1), (2, 16, 1), (0, 16, 1), (0, 16, 1), (0, 16, 1), (0, 16, 1), (1, 16, 1), (2, 16, 1), (2, 16, 1), (0, 16, 1), (0, 16, 1), (1, 16, 1), (0, 16, 1), (1, 16, 1), (1, 16, 1), (0, 16, 1), (1, 16, 1), (1, 16, 1), (0, 16, 0), (1, 16, 0), (3, 16, 1), (3, 16, 0), (3, 16, 0), (3, 16, 1), (2, 16, 1), (3, 1000, 2), (2, 16, 0), (3, 16, 0), (3, 16, 1), (3, 16, 1), (1, 16, 0), (1, 16, 0), (3, 16, 0), (3, 16, 1), (8, 16, 1), (10, 16, 1), (2, 16, 1), (2, 16, 1), (0, 16, 1), (1, 16, 1), (1, 16, 1), (2, 16, 1), (1, 16, 2), (1, 16, 0), (1, 16, 0), (1, 16, 0), (2, 16, 0), (3, 16, 0), (1, 16, 1), (1, 16, 0), (1, 16, 1), (1, 16, 1), (1, 16, 1), (1, 1000, 2), (2, 1000, 1), (2, 1000, 2), (2, 1000, 1), (2, 1000, 2), (0, 3000, 1), (1, 3000, 1), (0, 3000, 1), (0, 3000, 1), (2, 1000, 0), (2, 1000, 1), (2, 1000, 1), (1, 1000, 1), (2, 1000, 1), (2, 1000, 0), (0, 2000, 0), (0, 2000, 0), (0, 2000, 0), (1, 0, 3), (0, 0, 3), (0, 0, 1), (1, 0, 3), (1, 0, 3), (3, 0, 0), (1, 0, 1), (2, 1000, 3), (3, 1000, 3), (2, 1000, 3), (2, 1000, 1), (3, 1000, 1), (2, 1000, 1), (3, 1000, 1), (3, 1000, 1), (4, 2000, 0), (4, 2000, 0), (4, 2000, 0)]
theorem mt_no : mt[9999]? = none := List.getElem?_eq_none (by decide +kernel)
end
section
/-! classes and pools -/
theorem clin0 : ∀ w ∈ u_ws RJx4a65c TJx4a65c 3, w ∈ gW := by
  intro w hw
  obtain ⟨k, hk, rfl⟩ := List.mem_map.mp hw
  have hk := List.mem_range.mp hk
  match k, hk with
  | 0, _ => exact gw (w := u_lay RJx4a65c TJx4a65c 0) (tw2 (i := 95) rfl) rfl
  | 1, _ => exact gw (w := u_lay RJx4a65c TJx4a65c 1) (tw2 (i := 91) rfl) rfl
  | 2, _ => exact gw (w := u_lay RJx4a65c TJx4a65c 2) (tw2 (i := 93) rfl) rfl
theorem cl0 : clOK 0 (RJx4a65c, TJx4a65c, 3) := ⟨rfl, clin0, tyJx4a65c_ok, nmJx4a65c, by decide +kernel⟩
theorem clin1 : ∀ w ∈ u_ws RX0 TX0 5, w ∈ gW := by
  intro w hw
  obtain ⟨k, hk, rfl⟩ := List.mem_map.mp hw
  have hk := List.mem_range.mp hk
  match k, hk with
  | 0, _ => exact gw (w := u_lay RX0 TX0 0) (tw1 (i := 127) rfl) rfl
  | 1, _ => exact gw (w := u_lay RX0 TX0 1) (tw1 (i := 129) rfl) rfl
  | 2, _ => exact gw (w := u_lay RX0 TX0 2) (tw1 (i := 131) rfl) rfl
  | 3, _ => exact gw (w := u_lay RX0 TX0 3) (tw1 (i := 133) rfl) rfl
  | 4, _ => exact gw (w := u_lay RX0 TX0 4) (tw1 (i := 135) rfl) rfl
theorem cl1 : clOK 1 (RX0, TX0, 5) := ⟨rfl, clin1, tyX0_ok, nmX0, by decide +kernel⟩
theorem clin2 : ∀ w ∈ u_ws RX1 TX1 11, w ∈ gW := by
  intro w hw
  obtain ⟨k, hk, rfl⟩ := List.mem_map.mp hw
  have hk := List.mem_range.mp hk
  match k, hk with
  | 0, _ => exact gw (w := u_lay RX1 TX1 0) (tw2 (i := 135) rfl) rfl
  | 1, _ => exact gw (w := u_lay RX1 TX1 1) (tw2 (i := 137) rfl) rfl
  | 2, _ => exact gw (w := u_lay RX1 TX1 2) (tw2 (i := 139) rfl) rfl
  | 3, _ => exact gw (w := u_lay RX1 TX1 3) (tw2 (i := 141) rfl) rfl
  | 4, _ => exact gw (w := u_lay RX1 TX1 4) (tw2 (i := 143) rfl) rfl
  | 5, _ => exact gw (w := u_lay RX1 TX1 5) (tw2 (i := 145) rfl) rfl
  | 6, _ => exact gw (w := u_lay RX1 TX1 6) (tw2 (i := 147) rfl) rfl
  | 7, _ => exact gw (w := u_lay RX1 TX1 7) (tw2 (i := 149) rfl) rfl
  | 8, _ => exact gw (w := u_lay RX1 TX1 8) (tw2 (i := 151) rfl) rfl
  | 9, _ => exact gw (w := u_lay RX1 TX1 9) (tw2 (i := 153) rfl) rfl
  | 10, _ => exact gw (w := u_lay RX1 TX1 10) (tw2 (i := 155) rfl) rfl
theorem cl2 : clOK 2 (RX1, TX1, 11) := ⟨rfl, clin2, tyX1_ok, nmX1, by decide +kernel⟩
theorem clin3 : ∀ w ∈ u_ws RX2 TX2 2, w ∈ gW := by
  intro w hw
  obtain ⟨k, hk, rfl⟩ := List.mem_map.mp hw
  have hk := List.mem_range.mp hk
  match k, hk with
  | 0, _ => exact gw (w := u_lay RX2 TX2 0) (tw1 (i := 147) rfl) rfl
  | 1, _ => exact gw (w := u_lay RX2 TX2 1) (tw1 (i := 149) rfl) rfl
theorem cl3 : clOK 3 (RX2, TX2, 2) := ⟨rfl, clin3, tyX2_ok, nmX2, by decide +kernel⟩
theorem clin4 : ∀ w ∈ u_ws RX3 TX3 3, w ∈ gW := by
  intro w hw
  obtain ⟨k, hk, rfl⟩ := List.mem_map.mp hw
  have hk := List.mem_range.mp hk
  match k, hk with
  | 0, _ => exact gw (w := u_lay RX3 TX3 0) (tw3 (i := 203) rfl) rfl
  | 1, _ => exact gw (w := u_lay RX3 TX3 1) (tw3 (i := 205) rfl) rfl
  | 2, _ => exact gw (w := u_lay RX3 TX3 2) (tw3 (i := 207) rfl) rfl
theorem cl4 : clOK 4 (RX3, TX3, 3) := ⟨rfl, clin4, tyX3_ok, nmX3, by decide +kernel⟩
theorem clin5 : ∀ w ∈ u_ws RX4 TX4 4, w ∈ gW := by
  intro w hw
  obtain ⟨k, hk, rfl⟩ := List.mem_map.mp hw
  have hk := List.mem_range.mp hk
  match k, hk with
  | 0, _ => exact gw (w := u_lay RX4 TX4 0) (tw1 (i := 104) rfl) rfl
  | 1, _ => exact gw (w := u_lay RX4 TX4 1) (tw1 (i := 106) rfl) rfl
  | 2, _ => exact gw (w := u_lay RX4 TX4 2) (tw1 (i := 108) rfl) rfl
  | 3, _ => exact gw (w := u_lay RX4 TX4 3) (tw1 (i := 110) rfl) rfl
theorem cl5 : clOK 5 (RX4, TX4, 4) := ⟨rfl, clin5, tyX4_ok, nmX4, by decide +kernel⟩
theorem clin6 : ∀ w ∈ u_ws RX5 TX5 7, w ∈ gW := by
  intro w hw
  obtain ⟨k, hk, rfl⟩ := List.mem_map.mp hw
  have hk := List.mem_range.mp hk
  match k, hk with
  | 0, _ => exact gw (w := u_lay RX5 TX5 0) (tw1 (i := 61) rfl) rfl
  | 1, _ => exact gw (w := u_lay RX5 TX5 1) (tw1 (i := 63) rfl) rfl
  | 2, _ => exact gw (w := u_lay RX5 TX5 2) (tw1 (i := 65) rfl) rfl
  | 3, _ => exact gw (w := u_lay RX5 TX5 3) (tw1 (i := 67) rfl) rfl
  | 4, _ => exact gw (w := u_lay RX5 TX5 4) (tw1 (i := 69) rfl) rfl
  | 5, _ => exact gw (w := u_lay RX5 TX5 5) (tw1 (i := 71) rfl) rfl
  | 6, _ => exact gw (w := u_lay RX5 TX5 6) (tw1 (i := 73) rfl) rfl
theorem cl6 : clOK 6 (RX5, TX5, 7) := ⟨rfl, clin6, tyX5_ok, nmX5, by decide +kernel⟩
theorem clin7 : ∀ w ∈ u_ws RX6 TX6 2, w ∈ gW := by
  intro w hw
  obtain ⟨k, hk, rfl⟩ := List.mem_map.mp hw
  have hk := List.mem_range.mp hk
  match k, hk with
  | 0, _ => exact gw (w := u_lay RX6 TX6 0) (tw5 (i := 76) rfl) rfl
  | 1, _ => exact gw (w := u_lay RX6 TX6 1) (tw5 (i := 78) rfl) rfl
theorem cl7 : clOK 7 (RX6, TX6, 2) := ⟨rfl, clin7, tyX6_ok, nmX6, by decide +kernel⟩
theorem clin8 : ∀ w ∈ u_ws RX7 TX7 2, w ∈ gW := by
  intro w hw
  obtain ⟨k, hk, rfl⟩ := List.mem_map.mp hw
  have hk := List.mem_range.mp hk
  match k, hk with
  | 0, _ => exact gw (w := u_lay RX7 TX7 0) (tw3 (i := 232) rfl) rfl
  | 1, _ => exact gw (w := u_lay RX7 TX7 1) (tw3 (i := 234) rfl) rfl
theorem cl8 : clOK 8 (RX7, TX7, 2) := ⟨rfl, clin8, tyX7_ok, nmX7, by decide +kernel⟩
theorem clin9 : ∀ w ∈ u_ws RX8 TX8 8, w ∈ gW := by
  intro w hw
  obtain ⟨k, hk, rfl⟩ := List.mem_map.mp hw
  have hk := List.mem_range.mp hk
  match k, hk with
  | 0, _ => exact gw (w := u_lay RX8 TX8 0) (tw4 (i := 34) rfl) rfl
  | 1, _ => exact gw (w := u_lay RX8 TX8 1) (tw4 (i := 36) rfl) rfl
  | 2, _ => exact gw (w := u_lay RX8 TX8 2) (tw4 (i := 38) rfl) rfl
  | 3, _ => exact gw (w := u_lay RX8 TX8 3) (tw4 (i := 40) rfl) rfl
  | 4, _ => exact gw (w := u_lay RX8 TX8 4) (tw4 (i := 42) rfl) rfl
  | 5, _ => exact gw (w := u_lay RX8 TX8 5) (tw4 (i := 44) rfl) rfl
  | 6, _ => exact gw (w := u_lay RX8 TX8 6) (tw4 (i := 46) rfl) rfl
  | 7, _ => exact gw (w := u_lay RX8 TX8 7) (tw4 (i := 48) rfl) rfl
theorem cl9 : clOK 9 (RX8, TX8, 8) := ⟨rfl, clin9, tyX8_ok, nmX8, by decide +kernel⟩
theorem clin10 : ∀ w ∈ u_ws RX9 TX9 9, w ∈ gW := by
  intro w hw
  obtain ⟨k, hk, rfl⟩ := List.mem_map.mp hw
  have hk := List.mem_range.mp hk
  match k, hk with
  | 0, _ => exact gw (w := u_lay RX9 TX9 0) (tw4 (i := 115) rfl) rfl
  | 1, _ => exact gw (w := u_lay RX9 TX9 1) (tw4 (i := 117) rfl) rfl
  | 2, _ => exact gw (w := u_lay RX9 TX9 2) (tw4 (i := 119) rfl) rfl
  | 3, _ => exact gw (w := u_lay RX9 TX9 3) (tw4 (i := 121) rfl) rfl
  | 4, _ => exact gw (w := u_lay RX9 TX9 4) (tw4 (i := 123) rfl) rfl
  | 5, _ => exact gw (w := u_lay RX9 TX9 5) (tw4 (i := 125) rfl) rfl
  | 6, _ => exact gw (w := u_lay RX9 TX9 6) (tw4 (i := 127) rfl) rfl
  | 7, _ => exact gw (w := u_lay RX9 TX9 7) (tw4 (i := 129) rfl) rfl
  | 8, _ => exact gw (w := u_lay RX9 TX9 8) (tw4 (i := 131) rfl) rfl
theorem cl10 : clOK 10 (RX9, TX9, 9) := ⟨rfl, clin10, tyX9_ok, nmX9, by decide +kernel⟩
theorem clin11 : ∀ w ∈ u_ws RX10 TX10 3, w ∈ gW := by
  intro w hw
  obtain ⟨k, hk, rfl⟩ := List.mem_map.mp hw
  have hk := List.mem_range.mp hk
  match k, hk with
  | 0, _ => exact gw (w := u_lay RX10 TX10 0) (tw1 (i := 87) rfl) rfl
  | 1, _ => exact gw (w := u_lay RX10 TX10 1) (tw1 (i := 89) rfl) rfl
  | 2, _ => exact gw (w := u_lay RX10 TX10 2) (tw1 (i := 91) rfl) rfl
theorem cl11 : clOK 11 (RX10, TX10, 3) := ⟨rfl, clin11, tyX10_ok, nmX10, by decide +kernel⟩
theorem clin12 : ∀ w ∈ u_ws RX11 TX11 10, w ∈ gW := by
  intro w hw
  obtain ⟨k, hk, rfl⟩ := List.mem_map.mp hw
  have hk := List.mem_range.mp hk
  match k, hk with
  | 0, _ => exact gw (w := u_lay RX11 TX11 0) (tw1 (i := 162) rfl) rfl
  | 1, _ => exact gw (w := u_lay RX11 TX11 1) (tw1 (i := 164) rfl) rfl
  | 2, _ => exact gw (w := u_lay RX11 TX11 2) (tw1 (i := 166) rfl) rfl
  | 3, _ => exact gw (w := u_lay RX11 TX11 3) (tw1 (i := 168) rfl) rfl
  | 4, _ => exact gw (w := u_lay RX11 TX11 4) (tw1 (i := 170) rfl) rfl
  | 5, _ => exact gw (w := u_lay RX11 TX11 5) (tw1 (i := 172) rfl) rfl
  | 6, _ => exact gw (w := u_lay RX11 TX11 6) (tw1 (i := 174) rfl) rfl
  | 7, _ => exact gw (w := u_lay RX11 TX11 7) (tw1 (i := 176) rfl) rfl
  | 8, _ => exact gw (w := u_lay RX11 TX11 8) (tw1 (i := 178) rfl) rfl
  | 9, _ => exact gw (w := u_lay RX11 TX11 9) (tw1 (i := 180) rfl) rfl
theorem cl12 : clOK 12 (RX11, TX11, 10) := ⟨rfl, clin12, tyX11_ok, nmX11, by decide +kernel⟩
theorem clin13 : ∀ w ∈ u_ws RX12 TX12 12, w ∈ gW := by
  intro w hw
  obtain ⟨k, hk, rfl⟩ := List.mem_map.mp hw
  have hk := List.mem_range.mp hk
  match k, hk with
  | 0, _ => exact gw (w := u_lay RX12 TX12 0) (tw6 (i := 201) rfl) rfl
  | 1, _ => exact gw (w := u_lay RX12 TX12 1) (tw6 (i := 203) rfl) rfl
  | 2, _ => exact gw (w := u_lay RX12 TX12 2) (tw6 (i := 205) rfl) rfl
  | 3, _ => exact gw (w := u_lay RX12 TX12 3) (tw6 (i := 207) rfl) rfl
  | 4, _ => exact gw (w := u_lay RX12 TX12 4) (tw6 (i := 209) rfl) rfl
  | 5, _ => exact gw (w := u_lay RX12 TX12 5) (tw6 (i := 211) rfl) rfl
  | 6, _ => exact gw (w := u_lay RX12 TX12 6) (tw6 (i := 213) rfl) rfl
  | 7, _ => exact gw (w := u_lay RX12 TX12 7) (tw6 (i := 215) rfl) rfl
  | 8, _ => exact gw (w := u_lay RX12 TX12 8) (tw6 (i := 217) rfl) rfl
  | 9, _ => exact gw (w := u_lay RX12 TX12 9) (tw6 (i := 219) rfl) rfl
  | 10, _ => exact gw (w := u_lay RX12 TX12 10) (tw6 (i := 221) rfl) rfl
  | 11, _ => exact gw (w := u_lay RX12 TX12 11) (tw6 (i := 223) rfl) rfl
theorem cl13 : clOK 13 (RX12, TX12, 12) := ⟨rfl, clin13, tyX12_ok, nmX12, by decide +kernel⟩
theorem clin14 : ∀ w ∈ u_ws RX13 TX13 14, w ∈ gW := by
  intro w hw
  obtain ⟨k, hk, rfl⟩ := List.mem_map.mp hw
  have hk := List.mem_range.mp hk
  match k, hk with
  | 0, _ => exact gw (w := u_lay RX13 TX13 0) (tw6 (i := 145) rfl) rfl
  | 1, _ => exact gw (w := u_lay RX13 TX13 1) (tw6 (i := 147) rfl) rfl
  | 2, _ => exact gw (w := u_lay RX13 TX13 2) (tw6 (i := 149) rfl) rfl
  | 3, _ => exact gw (w := u_lay RX13 TX13 3) (tw6 (i := 151) rfl) rfl
  | 4, _ => exact gw (w := u_lay RX13 TX13 4) (tw6 (i := 153) rfl) rfl
  | 5, _ => exact gw (w := u_lay RX13 TX13 5) (tw6 (i := 155) rfl) rfl
  | 6, _ => exact gw (w := u_lay RX13 TX13 6) (tw6 (i := 157) rfl) rfl
  | 7, _ => exact gw (w := u_lay RX13 TX13 7) (tw6 (i := 159) rfl) rfl
  | 8, _ => exact gw (w := u_lay RX13 TX13 8) (tw6 (i := 161) rfl) rfl
  | 9, _ => exact gw (w := u_lay RX13 TX13 9) (tw6 (i := 163) rfl) rfl
  | 10, _ => exact gw (w := u_lay RX13 TX13 10) (tw6 (i := 165) rfl) rfl
  | 11, _ => exact gw (w := u_lay RX13 TX13 11) (tw6 (i := 167) rfl) rfl
  | 12, _ => exact gw (w := u_lay RX13 TX13 12) (tw6 (i := 169) rfl) rfl
  | 13, _ => exact gw (w := u_lay RX13 TX13 13) (tw6 (i := 171) rfl) rfl
theorem cl14 : clOK 14 (RX13, TX13, 14) := ⟨rfl, clin14, tyX13_ok, nmX13, by decide +kernel⟩
theorem clin15 : ∀ w ∈ u_ws RX14 TX14 8, w ∈ gW := by
  intro w hw
  obtain ⟨k, hk, rfl⟩ := List.mem_map.mp hw
  have hk := List.mem_range.mp hk
  match k, hk with
  | 0, _ => exact gw (w := u_lay RX14 TX14 0) (tw6 (i := 88) rfl) rfl
  | 1, _ => exact gw (w := u_lay RX14 TX14 1) (tw6 (i := 89) rfl) rfl
  | 2, _ => exact gw (w := u_lay RX14 TX14 2) (tw6 (i := 90) rfl) rfl
  | 3, _ => exact gw (w := u_lay RX14 TX14 3) (tw6 (i := 91) rfl) rfl
  | 4, _ => exact gw (w := u_lay RX14 TX14 4) (tw6 (i := 92) rfl) rfl
  | 5, _ => exact gw (w := u_lay RX14 TX14 5) (tw6 (i := 111) rfl) rfl
  | 6, _ => exact gw (w := u_lay RX14 TX14 6) (tw6 (i := 107) rfl) rfl
  | 7, _ => exact gw (w := u_lay RX14 TX14 7) (tw6 (i := 109) rfl) rfl
theorem cl15 : clOK 15 (RX14, TX14, 8) := ⟨rfl, clin15, tyX14_ok, nmX14, by decide +kernel⟩
theorem clin16 : ∀ w ∈ u_ws RX15 TX15 37, w ∈ gW := by
  intro w hw
  obtain ⟨k, hk, rfl⟩ := List.mem_map.mp hw
  have hk := List.mem_range.mp hk
  match k, hk with
  | 0, _ => exact gw (w := u_lay RX15 TX15 0) (tw7 (i := 24) rfl) rfl
  | 1, _ => exact gw (w := u_lay RX15 TX15 1) (tw7 (i := 26) rfl) rfl
  | 2, _ => exact gw (w := u_lay RX15 TX15 2) (tw7 (i := 28) rfl) rfl
  | 3, _ => exact gw (w := u_lay RX15 TX15 3) (tw7 (i := 30) rfl) rfl
  | 4, _ => exact gw (w := u_lay RX15 TX15 4) (tw7 (i := 32) rfl) rfl
  | 5, _ => exact gw (w := u_lay RX15 TX15 5) (tw7 (i := 34) rfl) rfl
  | 6, _ => exact gw (w := u_lay RX15 TX15 6) (tw7 (i := 36) rfl) rfl
  | 7, _ => exact gw (w := u_lay RX15 TX15 7) (tw7 (i := 38) rfl) rfl
  | 8, _ => exact gw (w := u_lay RX15 TX15 8) (tw7 (i := 40) rfl) rfl
  | 9, _ => exact gw (w := u_lay RX15 TX15 9) (tw7 (i := 42) rfl) rfl
  | 10, _ => exact gw (w := u_lay RX15 TX15 10) (tw7 (i := 44) rfl) rfl
  | 11, _ => exact gw (w := u_lay RX15 TX15 11) (tw7 (i := 46) rfl) rfl
  | 12, _ => exact gw (w := u_lay RX15 TX15 12) (tw7 (i := 48) rfl) rfl
  | 13, _ => exact gw (w := u_lay RX15 TX15 13) (tw7 (i := 50) rfl) rfl
  | 14, _ => exact gw (w := u_lay RX15 TX15 14) (tw7 (i := 52) rfl) rfl
  | 15, _ => exact gw (w := u_lay RX15 TX15 15) (tw7 (i := 54) rfl) rfl
  | 16, _ => exact gw (w := u_lay RX15 TX15 16) (tw7 (i := 56) rfl) rfl
  | 17, _ => exact gw (w := u_lay RX15 TX15 17) (tw7 (i := 58) rfl) rfl
  | 18, _ => exact gw (w := u_lay RX15 TX15 18) (tw7 (i := 60) rfl) rfl
  | 19, _ => exact gw (w := u_lay RX15 TX15 19) (tw7 (i := 62) rfl) rfl
  | 20, _ => exact gw (w := u_lay RX15 TX15 20) (tw7 (i := 64) rfl) rfl
  | 21, _ => exact gw (w := u_lay RX15 TX15 21) (tw7 (i := 66) rfl) rfl
  | 22, _ => exact gw (w := u_lay RX15 TX15 22) (tw7 (i := 68) rfl) rfl
  | 23, _ => exact gw (w := u_lay RX15 TX15 23) (tw7 (i := 70) rfl) rfl
  | 24, _ => exact gw (w := u_lay RX15 TX15 24) (tw7 (i := 72) rfl) rfl
  | 25, _ => exact gw (w := u_lay RX15 TX15 25) (tw7 (i := 74) rfl) rfl
  | 26, _ => exact gw (w := u_lay RX15 TX15 26) (tw7 (i := 76) rfl) rfl
  | 27, _ => exact gw (w := u_lay RX15 TX15 27) (tw7 (i := 78) rfl) rfl
  | 28, _ => exact gw (w := u_lay RX15 TX15 28) (tw7 (i := 80) rfl) rfl
  | 29, _ => exact gw (w := u_lay RX15 TX15 29) (tw7 (i := 82) rfl) rfl
  | 30, _ => exact gw (w := u_lay RX15 TX15 30) (tw7 (i := 84) rfl) rfl
  | 31, _ => exact gw (w := u_lay RX15 TX15 31) (tw7 (i := 86) rfl) rfl
  | 32, _ => exact gw (w := u_lay RX15 TX15 32) (tw7 (i := 88) rfl) rfl
  | 33, _ => exact gw (w := u_lay RX15 TX15 33) (tw7 (i := 90) rfl) rfl
  | 34, _ => exact gw (w := u_lay RX15 TX15 34) (tw7 (i := 92) rfl) rfl
  | 35, _ => exact gw (w := u_lay RX15 TX15 35) (tw7 (i := 94) rfl) rfl
  | 36, _ => exact gw (w := u_lay RX15 TX15 36) (tw7 (i := 96) rfl) rfl
  | k + 37, h => exact absurd h (by omega)
theorem cl16 : clOK 16 (RX15, TX15, 37) := ⟨rfl, clin16, tyX15_ok, nmX15, by decide +kernel⟩
theorem lk_in {β : Type} {l : List (Nat × β)} {a : Nat} {b : β} (h : l.lookup a = some b) : (a, b) ∈ l := by
  induction l with
  | nil => cases h
  | cons q r ih =>
    obtain ⟨c, e⟩ := q
    rw [List.lookup_cons] at h
    by_cases z : a = c
    · subst z
      simp at h
      rw [h]
      exact List.mem_cons_self
    · have z' : (a == c) = false := by simp [z]
      rw [z'] at h
      exact List.mem_cons_of_mem _ (ih h)
def FOK (own : String) (e : Nat × Nat × Nat × Nat) : Prop := e.2.1 < 17 ∧ ∃ r : vw_C, clOK e.2.1 r ∧ e.2.2.1 < r.2.2 ∧ (Cond.fieldLink own e.1 (r.2.1 e.2.2.1).1 (r.2.1 e.2.2.1).2.1 (r.2.1 e.2.2.1).2.2.1 ∈ gW ∨ ∃ host, Cond.fieldLinkNest own e.1 (r.2.1 e.2.2.1).1 (r.2.1 e.2.2.1).2.1 (r.2.1 e.2.2.1).2.2.1 host ∈ nW) ∧ (e.2.2.2 = 1 → (r.2.1 e.2.2.1).1 = own ∧ Cond.fieldLink own e.1 (r.2.1 e.2.2.1).1 (r.2.1 e.2.2.1).2.1 (r.2.1 e.2.2.1).2.2.1 ∈ gW)
def MOK (own : String) (e : Nat × Nat) : Prop := (e.2 = 9999 ∧ mt[9999]? = none ∧ Cond.methodLink own e.1 Lib.objectInit ∈ gW ∧ Cond.instanceMethod Lib.objectInit ∈ gW ∧ Cond.code Lib.objectInit ⟨#[0xb1]⟩ 1 none ∈ gW) ∨ (e.2 ≠ 9999 ∧ ∃ (q : ME) (na ci rk : Nat), mtab[e.2]? = some q ∧ mt[e.2]? = some (na, ci, rk) ∧ EOK q na ∧ kindOK q ci ∧ (Cond.methodLink own e.1 q.1 ∈ gW ∨ ∃ host, Cond.methodLinkNest own e.1 q.1 host ∈ nW))
def KOK (own : String) (e : Nat × Nat) : Prop := (e.2 < 100 → 1 ≤ e.2 ∧ ∃ r : vw_C, clOK (e.2 - 1) r ∧ Cond.classLink own e.1 r.1 ∈ gW ∧ Cond.instantiable r.1 (nSl.getD (e.2 - 1) 0) ∈ gW ∧ Cond.initialized r.1 ∈ gW) ∧ (e.2 = 300 → Cond.classLink own e.1 "java/lang/Object" ∈ gW)
theorem pool_of {own : String} {P : Pool} (h1 : ∀ e ∈ P.1, FOK own e) (h2 : ∀ e ∈ P.2.1, MOK own e) (h3 : ∀ e ∈ P.2.2.1, KOK own e) (h4 : ∀ e ∈ P.2.2.2.1, Cond.constant own e.1 e.2 ∈ gW) (h5 : ∀ e ∈ P.2.2.2.2.1, Cond.constantLong own e.1 e.2 ∈ gW) (h6 : ∀ e ∈ P.2.2.2.2.2.1, ∃ tx, (own, e.1, tx, e.2) ∈ strL)
    (h7 : ∀ e ∈ P.2.2.2.2.2.2, ∃ c n dsc, (c, n, dsc, e.2) ∈ stL ∧ Cond.fieldLink own e.1 c n dsc ∈ gW) : PoolOK own P mtab mt :=
  ⟨fun idx ci k w h => h1 _ (lk_in h), fun idx j h => h2 _ (lk_in h), fun idx kd h => h3 _ (lk_in h), fun idx v h => h4 _ (lk_in h), fun idx v h => h5 _ (lk_in h), fun idx n h => h6 _ (lk_in h), fun idx g h => h7 _ (lk_in h)⟩
theorem fa_0 {α : Type} {p : α → Prop} : ∀ e ∈ ([] : List α), p e := fun _ h => by cases h
theorem fa_c {α : Type} {p : α → Prop} {a : α} {l : List α} (h : p a) (t : ∀ e ∈ l, p e) : ∀ e ∈ a :: l, p e := List.forall_mem_cons.mpr ⟨h, t⟩
def pl0 : Pool := ([(13, 1, 0, 1), (29, 1, 1, 1), (17, 1, 2, 1), (33, 1, 3, 1), (42, 1, 4, 1), (169, 2, 0, 0), (102, 2, 3, 0), (249, 2, 5, 0), (261, 2, 6, 0), (271, 2, 7, 0), (107, 2, 9, 0), (113, 2, 10, 0), (68, 4, 0, 0), (78, 4, 1, 0), (116, 8, 0, 0), (96, 8, 1, 0), (125, 9, 0, 0), (128, 9, 1, 0), (183, 9, 2, 0), (173, 9, 3, 0), (139, 9, 4, 0), (176, 9, 5, 0), (170, 9, 6, 0), (151, 9, 7, 0), (197, 10, 0, 0), (228, 10, 3, 0), (217, 10, 4, 0), (207, 10, 5, 0), (214, 10, 6, 0), (231, 10, 7, 0), (235, 10, 8, 0), (25, 7, 1, 0)], [(3, 9999), (36, 9), (64, 8), (55, 5), (63, 105), (74, 7), (59, 107), (82, 269), (87, 271), (21, 106), (92, 10), (99, 11), (110, 6), (121, 12), (132, 31), (136, 13), (159, 27), (162, 28), (143, 32), (147, 15), (179, 16), (188, 253), (194, 251), (155, 14), (165, 17), (200, 112), (203, 113), (210, 20), (238, 19), (241, 22), (252, 29), (245, 21), (224, 18), (220, 23), (253, 25), (268, 146), (257, 24), (264, 147), (45, 3)], [(11, 8), (40, 201), (90, 9), (119, 10)], [(54, 60000)], [(186, -1)], [(49, 5)], [])
theorem pl0_f : ∀ e ∈ pl0.1, FOK "PathHouse$Finder" e := fa_c (⟨by decide, _, cl1, by decide, Or.inl (gw (tw1 (i := 121) rfl) rfl), fun h => ⟨rfl, gw (tw1 (i := 121) rfl) rfl⟩⟩) (fa_c (⟨by decide, _, cl1, by decide, Or.inl (gw (tw1 (i := 122) rfl) rfl), fun h => ⟨rfl, gw (tw1 (i := 122) rfl) rfl⟩⟩) (fa_c (⟨by decide, _, cl1, by decide, Or.inl (gw (tw1 (i := 123) rfl) rfl), fun h => ⟨rfl, gw (tw1 (i := 123) rfl) rfl⟩⟩) (fa_c (⟨by decide, _, cl1, by decide, Or.inl (gw (tw1 (i := 124) rfl) rfl), fun h => ⟨rfl, gw (tw1 (i := 124) rfl) rfl⟩⟩) (fa_c (⟨by decide, _, cl1, by decide, Or.inl (gw (tw1 (i := 126) rfl) rfl), fun h => ⟨rfl, gw (tw1 (i := 126) rfl) rfl⟩⟩) (fa_c (⟨by decide, _, cl2, by decide, Or.inr ⟨"PathHouse", nw (tw2 (i := 102) rfl) rfl⟩, fun h => absurd h (by decide)⟩) (fa_c (⟨by decide, _, cl2, by decide, Or.inr ⟨"PathHouse", nw (tw2 (i := 110) rfl) rfl⟩, fun h => absurd h (by decide)⟩) (fa_c (⟨by decide, _, cl2, by decide, Or.inr ⟨"PathHouse", nw (tw2 (i := 115) rfl) rfl⟩, fun h => absurd h (by decide)⟩) (fa_c (⟨by decide, _, cl2, by decide, Or.inr ⟨"PathHouse", nw (tw2 (i := 120) rfl) rfl⟩, fun h => absurd h (by decide)⟩) (fa_c (⟨by decide, _, cl2, by decide, Or.inr ⟨"PathHouse", nw (tw2 (i := 124) rfl) rfl⟩, fun h => absurd h (by decide)⟩) (fa_c (⟨by decide, _, cl2, by decide, Or.inr ⟨"PathHouse", nw (tw2 (i := 130) rfl) rfl⟩, fun h => absurd h (by decide)⟩) (fa_c (⟨by decide, _, cl2, by decide, Or.inr ⟨"PathHouse", nw (tw2 (i := 134) rfl) rfl⟩, fun h => absurd h (by decide)⟩) (fa_c (⟨by decide, _, cl4, by decide, Or.inr ⟨"PathHouse", nw (tw3 (i := 194) rfl) rfl⟩, fun h => absurd h (by decide)⟩) (fa_c (⟨by decide, _, cl4, by decide, Or.inr ⟨"PathHouse", nw (tw3 (i := 197) rfl) rfl⟩, fun h => absurd h (by decide)⟩) (fa_c (⟨by decide, _, cl8, by decide, Or.inr ⟨"PathHouse", nw (tw3 (i := 229) rfl) rfl⟩, fun h => absurd h (by decide)⟩) (fa_c (⟨by decide, _, cl8, by decide, Or.inr ⟨"PathHouse", nw (tw3 (i := 231) rfl) rfl⟩, fun h => absurd h (by decide)⟩) (fa_c (⟨by decide, _, cl9, by decide, Or.inr ⟨"PathHouse", nw (tw4 (i := 18) rfl) rfl⟩, fun h => absurd h (by decide)⟩) (fa_c (⟨by decide, _, cl9, by decide, Or.inr ⟨"PathHouse", nw (tw4 (i := 20) rfl) rfl⟩, fun h => absurd h (by decide)⟩) (fa_c (⟨by decide, _, cl9, by decide, Or.inr ⟨"PathHouse", nw (tw4 (i := 22) rfl) rfl⟩, fun h => absurd h (by decide)⟩) (fa_c (⟨by decide, _, cl9, by decide, Or.inr ⟨"PathHouse", nw (tw4 (i := 24) rfl) rfl⟩, fun h => absurd h (by decide)⟩) (fa_c (⟨by decide, _, cl9, by decide, Or.inr ⟨"PathHouse", nw (tw4 (i := 25) rfl) rfl⟩, fun h => absurd h (by decide)⟩) (fa_c (⟨by decide, _, cl9, by decide, Or.inr ⟨"PathHouse", nw (tw4 (i := 28) rfl) rfl⟩, fun h => absurd h (by decide)⟩) (fa_c (⟨by decide, _, cl9, by decide, Or.inr ⟨"PathHouse", nw (tw4 (i := 31) rfl) rfl⟩, fun h => absurd h (by decide)⟩) (fa_c (⟨by decide, _, cl9, by decide, Or.inr ⟨"PathHouse", nw (tw4 (i := 32) rfl) rfl⟩, fun h => absurd h (by decide)⟩) (fa_c (⟨by decide, _, cl10, by decide, Or.inr ⟨"PathHouse", nw (tw4 (i := 96) rfl) rfl⟩, fun h => absurd h (by decide)⟩) (fa_c (⟨by decide, _, cl10, by decide, Or.inr ⟨"PathHouse", nw (tw4 (i := 102) rfl) rfl⟩, fun h => absurd h (by decide)⟩) (fa_c (⟨by decide, _, cl10, by decide, Or.inr ⟨"PathHouse", nw (tw4 (i := 104) rfl) rfl⟩, fun h => absurd h (by decide)⟩) (fa_c (⟨by decide, _, cl10, by decide, Or.inr ⟨"PathHouse", nw (tw4 (i := 106) rfl) rfl⟩, fun h => absurd h (by decide)⟩) (fa_c (⟨by decide, _, cl10, by decide, Or.inr ⟨"PathHouse", nw (tw4 (i := 108) rfl) rfl⟩, fun h => absurd h (by decide)⟩) (fa_c (⟨by decide, _, cl10, by decide, Or.inr ⟨"PathHouse", nw (tw4 (i := 111) rfl) rfl⟩, fun h => absurd h (by decide)⟩) (fa_c (⟨by decide, _, cl10, by decide, Or.inr ⟨"PathHouse", nw (tw4 (i := 113) rfl) rfl⟩, fun h => absurd h (by decide)⟩) (fa_c (⟨by decide, _, cl7, by decide, Or.inr ⟨"PathHouse", nw (tw5 (i := 75) rfl) rfl⟩, fun h => absurd h (by decide)⟩) fa_0)))))))))))))))))))))))))))))))
theorem pl0_m : ∀ e ∈ pl0.2.1, MOK "PathHouse$Finder" e := fa_c (Or.inl ⟨rfl, mt_no, gw (tw1 (i := 118) rfl) rfl, gw (tw1 (i := 41) rfl) rfl, gw (tw1 (i := 42) rfl) rfl⟩) (fa_c (Or.inr ⟨(show (9 : Nat) ≠ 9999 by decide), mE9, 3, 1, 3, rfl, rfl, mK9.1, mK9.2, Or.inl (gw (tw5 (i := 39) rfl) rfl)⟩) (fa_c (Or.inr ⟨(show (8 : Nat) ≠ 9999 by decide), mE8, 1, 1, 3, rfl, rfl, mK8.1, mK8.2, Or.inl (gw (tw5 (i := 43) rfl) rfl)⟩) (fa_c (Or.inr ⟨(show (5 : Nat) ≠ 9999 by decide), mE5, 1, 1, 0, rfl, rfl, mK5.1, mK5.2, Or.inl (gw (tw5 (i := 47) rfl) rfl)⟩) (fa_c (Or.inr ⟨(show (105 : Nat) ≠ 9999 by decide), mE105, 0, 2000, 0, rfl, rfl, mK105.1, mK105.2, Or.inr ⟨"PathHouse", nw (tw5 (i := 67) rfl) rfl⟩⟩) (fa_c (Or.inr ⟨(show (7 : Nat) ≠ 9999 by decide), mE7, 2, 1, 0, rfl, rfl, mK7.1, mK7.2, Or.inl (gw (tw5 (i := 81) rfl) rfl)⟩) (fa_c (Or.inr ⟨(show (107 : Nat) ≠ 9999 by decide), mE107, 1, 7, 1, rfl, rfl, mK107.1, mK107.2, Or.inr ⟨"PathHouse", nw (tw5 (i := 85) rfl) rfl⟩⟩) (fa_c (Or.inr ⟨(show (269 : Nat) ≠ 9999 by decide), mE269, 0, 0, 1, rfl, rfl, mK269.1, mK269.2, Or.inl (gw (tw5 (i := 89) rfl) rfl)⟩) (fa_c (Or.inr ⟨(show (271 : Nat) ≠ 9999 by decide), mE271, 1, 0, 3, rfl, rfl, mK271.1, mK271.2, Or.inl (gw (tw5 (i := 90) rfl) rfl)⟩) (fa_c (Or.inr ⟨(show (106 : Nat) ≠ 9999 by decide), mE106, 1, 7, 3, rfl, rfl, mK106.1, mK106.2, Or.inr ⟨"PathHouse", nw (tw5 (i := 92) rfl) rfl⟩⟩) (fa_c (Or.inr ⟨(show (10 : Nat) ≠ 9999 by decide), mE10, 4, 1, 0, rfl, rfl, mK10.1, mK10.2, Or.inl (gw (tw5 (i := 96) rfl) rfl)⟩) (fa_c (Or.inr ⟨(show (11 : Nat) ≠ 9999 by decide), mE11, 4, 1, 0, rfl, rfl, mK11.1, mK11.2, Or.inl (gw (tw5 (i := 100) rfl) rfl)⟩) (fa_c (Or.inr ⟨(show (6 : Nat) ≠ 9999 by decide), mE6, 0, 1, 0, rfl, rfl, mK6.1, mK6.2, Or.inl (gw (tw5 (i := 104) rfl) rfl)⟩) (fa_c (Or.inr ⟨(show (12 : Nat) ≠ 9999 by decide), mE12, 4, 1, 0, rfl, rfl, mK12.1, mK12.2, Or.inl (gw (tw5 (i := 110) rfl) rfl)⟩) (fa_c (Or.inr ⟨(show (31 : Nat) ≠ 9999 by decide), mE31, 1, 2, 3, rfl, rfl, mK31.1, mK31.2, Or.inr ⟨"PathHouse", nw (tw5 (i := 114) rfl) rfl⟩⟩) (fa_c (Or.inr ⟨(show (13 : Nat) ≠ 9999 by decide), mE13, 2, 1, 0, rfl, rfl, mK13.1, mK13.2, Or.inl (gw (tw5 (i := 115) rfl) rfl)⟩) (fa_c (Or.inr ⟨(show (27 : Nat) ≠ 9999 by decide), mE27, 0, 2, 1, rfl, rfl, mK27.1, mK27.2, Or.inr ⟨"PathHouse", nw (tw5 (i := 119) rfl) rfl⟩⟩) (fa_c (Or.inr ⟨(show (28 : Nat) ≠ 9999 by decide), mE28, 1, 2, 3, rfl, rfl, mK28.1, mK28.2, Or.inr ⟨"PathHouse", nw (tw5 (i := 123) rfl) rfl⟩⟩) (fa_c (Or.inr ⟨(show (32 : Nat) ≠ 9999 by decide), mE32, 1, 2, 3, rfl, rfl, mK32.1, mK32.2, Or.inr ⟨"PathHouse", nw (tw5 (i := 127) rfl) rfl⟩⟩) (fa_c (Or.inr ⟨(show (15 : Nat) ≠ 9999 by decide), mE15, 3, 1, 0, rfl, rfl, mK15.1, mK15.2, Or.inl (gw (tw5 (i := 133) rfl) rfl)⟩) (fa_c (Or.inr ⟨(show (16 : Nat) ≠ 9999 by decide), mE16, 4, 1000, 2, rfl, rfl, mK16.1, mK16.2, Or.inl (gw (tw5 (i := 137) rfl) rfl)⟩) (fa_c (Or.inr ⟨(show (253 : Nat) ≠ 9999 by decide), mE253, 2, 1000, 2, rfl, rfl, mK253.1, mK253.2, Or.inl (gw (tw5 (i := 140) rfl) rfl)⟩) (fa_c (Or.inr ⟨(show (251 : Nat) ≠ 9999 by decide), mE251, 2, 1000, 2, rfl, rfl, mK251.1, mK251.2, Or.inl (gw (tw5 (i := 141) rfl) rfl)⟩) (fa_c (Or.inr ⟨(show (14 : Nat) ≠ 9999 by decide), mE14, 4, 1, 0, rfl, rfl, mK14.1, mK14.2, Or.inl (gw (tw5 (i := 145) rfl) rfl)⟩) (fa_c (Or.inr ⟨(show (17 : Nat) ≠ 9999 by decide), mE17, 3, 1, 1, rfl, rfl, mK17.1, mK17.2, Or.inl (gw (tw5 (i := 149) rfl) rfl)⟩) (fa_c (Or.inr ⟨(show (112 : Nat) ≠ 9999 by decide), mE112, 0, 10, 1, rfl, rfl, mK112.1, mK112.2, Or.inr ⟨"PathHouse", nw (tw5 (i := 153) rfl) rfl⟩⟩) (fa_c (Or.inr ⟨(show (113 : Nat) ≠ 9999 by decide), mE113, 1, 10, 3, rfl, rfl, mK113.1, mK113.2, Or.inr ⟨"PathHouse", nw (tw5 (i := 154) rfl) rfl⟩⟩) (fa_c (Or.inr ⟨(show (20 : Nat) ≠ 9999 by decide), mE20, 3, 1, 3, rfl, rfl, mK20.1, mK20.2, Or.inl (gw (tw5 (i := 155) rfl) rfl)⟩) (fa_c (Or.inr ⟨(show (19 : Nat) ≠ 9999 by decide), mE19, 3, 1, 3, rfl, rfl, mK19.1, mK19.2, Or.inl (gw (tw5 (i := 159) rfl) rfl)⟩) (fa_c (Or.inr ⟨(show (22 : Nat) ≠ 9999 by decide), mE22, 2, 1000, 3, rfl, rfl, mK22.1, mK22.2, Or.inl (gw (tw5 (i := 163) rfl) rfl)⟩) (fa_c (Or.inr ⟨(show (29 : Nat) ≠ 9999 by decide), mE29, 0, 2, 1, rfl, rfl, mK29.1, mK29.2, Or.inr ⟨"PathHouse", nw (tw5 (i := 166) rfl) rfl⟩⟩) (fa_c (Or.inr ⟨(show (21 : Nat) ≠ 9999 by decide), mE21, 2, 1000, 3, rfl, rfl, mK21.1, mK21.2, Or.inl (gw (tw5 (i := 170) rfl) rfl)⟩) (fa_c (Or.inr ⟨(show (18 : Nat) ≠ 9999 by decide), mE18, 3, 1, 1, rfl, rfl, mK18.1, mK18.2, Or.inl (gw (tw5 (i := 173) rfl) rfl)⟩) (fa_c (Or.inr ⟨(show (23 : Nat) ≠ 9999 by decide), mE23, 3, 1, 1, rfl, rfl, mK23.1, mK23.2, Or.inl (gw (tw5 (i := 177) rfl) rfl)⟩) (fa_c (Or.inr ⟨(show (25 : Nat) ≠ 9999 by decide), mE25, 3, 1, 1, rfl, rfl, mK25.1, mK25.2, Or.inl (gw (tw5 (i := 181) rfl) rfl)⟩) (fa_c (Or.inr ⟨(show (146 : Nat) ≠ 9999 by decide), mE146, 2, 1000, 1, rfl, rfl, mK146.1, mK146.2, Or.inr ⟨"PathHouse", nw (tw5 (i := 185) rfl) rfl⟩⟩) (fa_c (Or.inr ⟨(show (24 : Nat) ≠ 9999 by decide), mE24, 2, 1000, 1, rfl, rfl, mK24.1, mK24.2, Or.inl (gw (tw5 (i := 186) rfl) rfl)⟩) (fa_c (Or.inr ⟨(show (147 : Nat) ≠ 9999 by decide), mE147, 2, 1000, 1, rfl, rfl, mK147.1, mK147.2, Or.inr ⟨"PathHouse", nw (tw5 (i := 189) rfl) rfl⟩⟩) (fa_c (Or.inr ⟨(show (3 : Nat) ≠ 9999 by decide), mE3, 0, 1, 1, rfl, rfl, mK3.1, mK3.2, Or.inl (gw (tw5 (i := 193) rfl) rfl)⟩) fa_0))))))))))))))))))))))))))))))))))))))
theorem pl0_k : ∀ e ∈ pl0.2.2.1, KOK "PathHouse$Finder" e := fa_c (⟨fun _ => ⟨by decide, _, cl7, gw (tw1 (i := 119) rfl) rfl, gw (tw5 (i := 66) rfl) rfl, gw (tw1 (i := 33) rfl) rfl⟩, fun h => absurd h (by decide)⟩) (fa_c (⟨fun h => absurd h (by decide), fun h => absurd h (by decide)⟩) (fa_c (⟨fun _ => ⟨by decide, _, cl8, gw (tw5 (i := 91) rfl) rfl, gw (tw3 (i := 220) rfl) rfl, gw (tw1 (i := 29) rfl) rfl⟩, fun h => absurd h (by decide)⟩) (fa_c (⟨fun _ => ⟨by decide, _, cl9, gw (tw5 (i := 109) rfl) rfl, gw (tw4 (i := 12) rfl) rfl, gw (tw1 (i := 30) rfl) rfl⟩, fun h => absurd h (by decide)⟩) fa_0)))
theorem pl0_i : ∀ e ∈ pl0.2.2.2.1, Cond.constant "PathHouse$Finder" e.1 e.2 ∈ gW := fa_c (gw (tw5 (i := 108) rfl) rfl) fa_0
theorem pl0_j : ∀ e ∈ pl0.2.2.2.2.1, Cond.constantLong "PathHouse$Finder" e.1 e.2 ∈ gW := fa_c (gw (tw5 (i := 144) rfl) rfl) fa_0
theorem pl0_s : ∀ e ∈ pl0.2.2.2.2.2.1, ∃ tx, ("PathHouse$Finder", e.1, tx, e.2) ∈ strL := fa_c (⟨"the find ends here", by decide +kernel⟩) fa_0
theorem pl0_g : ∀ e ∈ pl0.2.2.2.2.2.2, ∃ c n dsc, (c, n, dsc, e.2) ∈ stL ∧ Cond.fieldLink "PathHouse$Finder" e.1 c n dsc ∈ gW := fa_0
theorem pl0_ok : PoolOK "PathHouse$Finder" pl0 mtab mt := pool_of pl0_f pl0_m pl0_k pl0_i pl0_j pl0_s pl0_g
def pl1 : Pool := ([(15, 2, 0, 1), (18, 2, 1, 1), (22, 2, 2, 1), (25, 2, 3, 1), (34, 2, 4, 1), (46, 2, 6, 1), (53, 2, 7, 1), (9, 2, 8, 1), (28, 2, 9, 1), (74, 2, 10, 1)], [(3, 9999), (33, 266), (38, 269), (56, 273), (42, 271), (60, 146), (50, 27), (64, 28), (68, 250)], [(31, 1), (10, 3)], [], [], [], [])
theorem pl1_f : ∀ e ∈ pl1.1, FOK "PathHouse$Node" e := fa_c (⟨by decide, _, cl2, by decide, Or.inl (gw (tw2 (i := 98) rfl) rfl), fun h => ⟨rfl, gw (tw2 (i := 98) rfl) rfl⟩⟩) (fa_c (⟨by decide, _, cl2, by decide, Or.inl (gw (tw2 (i := 103) rfl) rfl), fun h => ⟨rfl, gw (tw2 (i := 103) rfl) rfl⟩⟩) (fa_c (⟨by decide, _, cl2, by decide, Or.inl (gw (tw2 (i := 105) rfl) rfl), fun h => ⟨rfl, gw (tw2 (i := 105) rfl) rfl⟩⟩) (fa_c (⟨by decide, _, cl2, by decide, Or.inl (gw (tw2 (i := 108) rfl) rfl), fun h => ⟨rfl, gw (tw2 (i := 108) rfl) rfl⟩⟩) (fa_c (⟨by decide, _, cl2, by decide, Or.inl (gw (tw2 (i := 111) rfl) rfl), fun h => ⟨rfl, gw (tw2 (i := 111) rfl) rfl⟩⟩) (fa_c (⟨by decide, _, cl2, by decide, Or.inl (gw (tw2 (i := 117) rfl) rfl), fun h => ⟨rfl, gw (tw2 (i := 117) rfl) rfl⟩⟩) (fa_c (⟨by decide, _, cl2, by decide, Or.inl (gw (tw2 (i := 122) rfl) rfl), fun h => ⟨rfl, gw (tw2 (i := 122) rfl) rfl⟩⟩) (fa_c (⟨by decide, _, cl2, by decide, Or.inl (gw (tw2 (i := 125) rfl) rfl), fun h => ⟨rfl, gw (tw2 (i := 125) rfl) rfl⟩⟩) (fa_c (⟨by decide, _, cl2, by decide, Or.inl (gw (tw2 (i := 128) rfl) rfl), fun h => ⟨rfl, gw (tw2 (i := 128) rfl) rfl⟩⟩) (fa_c (⟨by decide, _, cl2, by decide, Or.inl (gw (tw2 (i := 133) rfl) rfl), fun h => ⟨rfl, gw (tw2 (i := 133) rfl) rfl⟩⟩) fa_0)))))))))
theorem pl1_m : ∀ e ∈ pl1.2.1, MOK "PathHouse$Node" e := fa_c (Or.inl ⟨rfl, mt_no, gw (tw2 (i := 71) rfl) rfl, gw (tw1 (i := 41) rfl) rfl, gw (tw1 (i := 42) rfl) rfl⟩) (fa_c (Or.inr ⟨(show (266 : Nat) ≠ 9999 by decide), mE266, 0, 2000, 0, rfl, rfl, mK266.1, mK266.2, Or.inl (gw (tw2 (i := 74) rfl) rfl)⟩) (fa_c (Or.inr ⟨(show (269 : Nat) ≠ 9999 by decide), mE269, 0, 0, 1, rfl, rfl, mK269.1, mK269.2, Or.inl (gw (tw3 (i := 72) rfl) rfl)⟩) (fa_c (Or.inr ⟨(show (273 : Nat) ≠ 9999 by decide), mE273, 1, 0, 1, rfl, rfl, mK273.1, mK273.2, Or.inl (gw (tw3 (i := 76) rfl) rfl)⟩) (fa_c (Or.inr ⟨(show (271 : Nat) ≠ 9999 by decide), mE271, 1, 0, 3, rfl, rfl, mK271.1, mK271.2, Or.inl (gw (tw3 (i := 155) rfl) rfl)⟩) (fa_c (Or.inr ⟨(show (146 : Nat) ≠ 9999 by decide), mE146, 2, 1000, 1, rfl, rfl, mK146.1, mK146.2, Or.inr ⟨"PathHouse", nw (tw3 (i := 168) rfl) rfl⟩⟩) (fa_c (Or.inr ⟨(show (27 : Nat) ≠ 9999 by decide), mE27, 0, 2, 1, rfl, rfl, mK27.1, mK27.2, Or.inl (gw (tw5 (i := 131) rfl) rfl)⟩) (fa_c (Or.inr ⟨(show (28 : Nat) ≠ 9999 by decide), mE28, 1, 2, 3, rfl, rfl, mK28.1, mK28.2, Or.inl (gw (tw5 (i := 132) rfl) rfl)⟩) (fa_c (Or.inr ⟨(show (250 : Nat) ≠ 9999 by decide), mE250, 2, 1000, 1, rfl, rfl, mK250.1, mK250.2, Or.inl (gw (tw6 (i := 42) rfl) rfl)⟩) fa_0))))))))
theorem pl1_k : ∀ e ∈ pl1.2.2.1, KOK "PathHouse$Node" e := fa_c (⟨fun _ => ⟨by decide, _, cl0, gw (tw2 (i := 72) rfl) rfl, gw (tw2 (i := 73) rfl) rfl, gw (tw1 (i := 19) rfl) rfl⟩, fun h => absurd h (by decide)⟩) (fa_c (⟨fun _ => ⟨by decide, _, cl2, gw (tw3 (i := 167) rfl) rfl, gw (tw2 (i := 67) rfl) rfl, gw (tw1 (i := 16) rfl) rfl⟩, fun h => absurd h (by decide)⟩) fa_0)
theorem pl1_i : ∀ e ∈ pl1.2.2.2.1, Cond.constant "PathHouse$Node" e.1 e.2 ∈ gW := fa_0
theorem pl1_j : ∀ e ∈ pl1.2.2.2.2.1, Cond.constantLong "PathHouse$Node" e.1 e.2 ∈ gW := fa_0
theorem pl1_s : ∀ e ∈ pl1.2.2.2.2.2.1, ∃ tx, ("PathHouse$Node", e.1, tx, e.2) ∈ strL := fa_0
theorem pl1_g : ∀ e ∈ pl1.2.2.2.2.2.2, ∃ c n dsc, (c, n, dsc, e.2) ∈ stL ∧ Cond.fieldLink "PathHouse$Node" e.1 c n dsc ∈ gW := fa_0
theorem pl1_ok : PoolOK "PathHouse$Node" pl1 mtab mt := pool_of pl1_f pl1_m pl1_k pl1_i pl1_j pl1_s pl1_g
def pl2 : Pool := ([(9, 3, 0, 1), (15, 3, 1, 1), (85, 2, 0, 0), (60, 2, 1, 0), (94, 2, 5, 0), (98, 2, 6, 0), (73, 2, 7, 0), (70, 2, 8, 0)], [(3, 9999), (33, 38), (66, 44), (77, 41), (47, 42), (55, 39), (23, 254), (29, 255), (50, 43), (81, 40), (37, 249), (101, 46), (104, 27), (107, 28), (111, 45), (19, 36)], [], [(59, 65536)], [(43, 10), (45, 48)], [(53, 8), (88, 4), (90, 2), (92, 7)], [])
theorem pl2_f : ∀ e ∈ pl2.1, FOK "PathHouse$Out" e := fa_c (⟨by decide, _, cl3, by decide, Or.inl (gw (tw1 (i := 144) rfl) rfl), fun h => ⟨rfl, gw (tw1 (i := 144) rfl) rfl⟩⟩) (fa_c (⟨by decide, _, cl3, by decide, Or.inl (gw (tw1 (i := 145) rfl) rfl), fun h => ⟨rfl, gw (tw1 (i := 145) rfl) rfl⟩⟩) (fa_c (⟨by decide, _, cl2, by decide, Or.inr ⟨"PathHouse", nw (tw2 (i := 101) rfl) rfl⟩, fun h => absurd h (by decide)⟩) (fa_c (⟨by decide, _, cl2, by decide, Or.inr ⟨"PathHouse", nw (tw2 (i := 104) rfl) rfl⟩, fun h => absurd h (by decide)⟩) (fa_c (⟨by decide, _, cl2, by decide, Or.inr ⟨"PathHouse", nw (tw2 (i := 114) rfl) rfl⟩, fun h => absurd h (by decide)⟩) (fa_c (⟨by decide, _, cl2, by decide, Or.inr ⟨"PathHouse", nw (tw2 (i := 119) rfl) rfl⟩, fun h => absurd h (by decide)⟩) (fa_c (⟨by decide, _, cl2, by decide, Or.inr ⟨"PathHouse", nw (tw2 (i := 123) rfl) rfl⟩, fun h => absurd h (by decide)⟩) (fa_c (⟨by decide, _, cl2, by decide, Or.inr ⟨"PathHouse", nw (tw2 (i := 127) rfl) rfl⟩, fun h => absurd h (by decide)⟩) fa_0)))))))
theorem pl2_m : ∀ e ∈ pl2.2.1, MOK "PathHouse$Out" e := fa_c (Or.inl ⟨rfl, mt_no, gw (tw1 (i := 143) rfl) rfl, gw (tw1 (i := 41) rfl) rfl, gw (tw1 (i := 42) rfl) rfl⟩) (fa_c (Or.inr ⟨(show (38 : Nat) ≠ 9999 by decide), mE38, 1, 3, 0, rfl, rfl, mK38.1, mK38.2, Or.inl (gw (tw5 (i := 222) rfl) rfl)⟩) (fa_c (Or.inr ⟨(show (44 : Nat) ≠ 9999 by decide), mE44, 2, 3, 0, rfl, rfl, mK44.1, mK44.2, Or.inl (gw (tw5 (i := 226) rfl) rfl)⟩) (fa_c (Or.inr ⟨(show (41 : Nat) ≠ 9999 by decide), mE41, 2, 3, 0, rfl, rfl, mK41.1, mK41.2, Or.inl (gw (tw5 (i := 227) rfl) rfl)⟩) (fa_c (Or.inr ⟨(show (42 : Nat) ≠ 9999 by decide), mE42, 1, 3, 0, rfl, rfl, mK42.1, mK42.2, Or.inl (gw (tw5 (i := 231) rfl) rfl)⟩) (fa_c (Or.inr ⟨(show (39 : Nat) ≠ 9999 by decide), mE39, 1, 3, 0, rfl, rfl, mK39.1, mK39.2, Or.inl (gw (tw5 (i := 236) rfl) rfl)⟩) (fa_c (Or.inr ⟨(show (254 : Nat) ≠ 9999 by decide), mE254, 0, 3000, 1, rfl, rfl, mK254.1, mK254.2, Or.inl (gw (tw6 (i := 0) rfl) rfl)⟩) (fa_c (Or.inr ⟨(show (255 : Nat) ≠ 9999 by decide), mE255, 1, 3000, 1, rfl, rfl, mK255.1, mK255.2, Or.inl (gw (tw6 (i := 1) rfl) rfl)⟩) (fa_c (Or.inr ⟨(show (43 : Nat) ≠ 9999 by decide), mE43, 1, 3, 0, rfl, rfl, mK43.1, mK43.2, Or.inl (gw (tw6 (i := 2) rfl) rfl)⟩) (fa_c (Or.inr ⟨(show (40 : Nat) ≠ 9999 by decide), mE40, 1, 3, 0, rfl, rfl, mK40.1, mK40.2, Or.inl (gw (tw6 (i := 7) rfl) rfl)⟩) (fa_c (Or.inr ⟨(show (249 : Nat) ≠ 9999 by decide), mE249, 1, 1000, 2, rfl, rfl, mK249.1, mK249.2, Or.inl (gw (tw6 (i := 11) rfl) rfl)⟩) (fa_c (Or.inr ⟨(show (46 : Nat) ≠ 9999 by decide), mE46, 2, 3, 0, rfl, rfl, mK46.1, mK46.2, Or.inl (gw (tw6 (i := 27) rfl) rfl)⟩) (fa_c (Or.inr ⟨(show (27 : Nat) ≠ 9999 by decide), mE27, 0, 2, 1, rfl, rfl, mK27.1, mK27.2, Or.inr ⟨"PathHouse", nw (tw6 (i := 31) rfl) rfl⟩⟩) (fa_c (Or.inr ⟨(show (28 : Nat) ≠ 9999 by decide), mE28, 1, 2, 3, rfl, rfl, mK28.1, mK28.2, Or.inr ⟨"PathHouse", nw (tw6 (i := 32) rfl) rfl⟩⟩) (fa_c (Or.inr ⟨(show (45 : Nat) ≠ 9999 by decide), mE45, 2, 3, 0, rfl, rfl, mK45.1, mK45.2, Or.inl (gw (tw6 (i := 33) rfl) rfl)⟩) (fa_c (Or.inr ⟨(show (36 : Nat) ≠ 9999 by decide), mE36, 1, 3, 1, rfl, rfl, mK36.1, mK36.2, Or.inl (gw (tw6 (i := 77) rfl) rfl)⟩) fa_0)))))))))))))))
theorem pl2_k : ∀ e ∈ pl2.2.2.1, KOK "PathHouse$Out" e := fa_0
theorem pl2_i : ∀ e ∈ pl2.2.2.2.1, Cond.constant "PathHouse$Out" e.1 e.2 ∈ gW := fa_c (gw (tw6 (i := 6) rfl) rfl) fa_0
theorem pl2_j : ∀ e ∈ pl2.2.2.2.2.1, Cond.constantLong "PathHouse$Out" e.1 e.2 ∈ gW := fa_c (gw (tw6 (i := 14) rfl) rfl) (fa_c (gw (tw6 (i := 15) rfl) rfl) fa_0)
theorem pl2_s : ∀ e ∈ pl2.2.2.2.2.2.1, ∃ tx, ("PathHouse$Out", e.1, tx, e.2) ∈ strL := fa_c (⟨"u00", by decide +kernel⟩) (fa_c (⟨"null", by decide +kernel⟩) (fa_c (⟨"false", by decide +kernel⟩) (fa_c (⟨"true", by decide +kernel⟩) fa_0)))
theorem pl2_g : ∀ e ∈ pl2.2.2.2.2.2.2, ∃ c n dsc, (c, n, dsc, e.2) ∈ stL ∧ Cond.fieldLink "PathHouse$Out" e.1 c n dsc ∈ gW := fa_0
theorem pl2_ok : PoolOK "PathHouse$Out" pl2 mtab mt := pool_of pl2_f pl2_m pl2_k pl2_i pl2_j pl2_s pl2_g
def pl3 : Pool := ([(20, 4, 0, 1), (10, 4, 1, 1), (16, 4, 2, 1)], [(1, 9999), (9, 266)], [(7, 1)], [], [], [], [])
theorem pl3_f : ∀ e ∈ pl3.1, FOK "PathHouse$Path" e := fa_c (⟨by decide, _, cl4, by decide, Or.inl (gw (tw3 (i := 193) rfl) rfl), fun h => ⟨rfl, gw (tw3 (i := 193) rfl) rfl⟩⟩) (fa_c (⟨by decide, _, cl4, by decide, Or.inl (gw (tw3 (i := 195) rfl) rfl), fun h => ⟨rfl, gw (tw3 (i := 195) rfl) rfl⟩⟩) (fa_c (⟨by decide, _, cl4, by decide, Or.inl (gw (tw3 (i := 199) rfl) rfl), fun h => ⟨rfl, gw (tw3 (i := 199) rfl) rfl⟩⟩) fa_0))
theorem pl3_m : ∀ e ∈ pl3.2.1, MOK "PathHouse$Path" e := fa_c (Or.inl ⟨rfl, mt_no, gw (tw3 (i := 190) rfl) rfl, gw (tw1 (i := 41) rfl) rfl, gw (tw1 (i := 42) rfl) rfl⟩) (fa_c (Or.inr ⟨(show (266 : Nat) ≠ 9999 by decide), mE266, 0, 2000, 0, rfl, rfl, mK266.1, mK266.2, Or.inl (gw (tw3 (i := 192) rfl) rfl)⟩) fa_0)
theorem pl3_k : ∀ e ∈ pl3.2.2.1, KOK "PathHouse$Path" e := fa_c (⟨fun _ => ⟨by decide, _, cl0, gw (tw3 (i := 191) rfl) rfl, gw (tw2 (i := 73) rfl) rfl, gw (tw1 (i := 19) rfl) rfl⟩, fun h => absurd h (by decide)⟩) fa_0
theorem pl3_i : ∀ e ∈ pl3.2.2.2.1, Cond.constant "PathHouse$Path" e.1 e.2 ∈ gW := fa_0
theorem pl3_j : ∀ e ∈ pl3.2.2.2.2.1, Cond.constantLong "PathHouse$Path" e.1 e.2 ∈ gW := fa_0
theorem pl3_s : ∀ e ∈ pl3.2.2.2.2.2.1, ∃ tx, ("PathHouse$Path", e.1, tx, e.2) ∈ strL := fa_0
theorem pl3_g : ∀ e ∈ pl3.2.2.2.2.2.2, ∃ c n dsc, (c, n, dsc, e.2) ∈ stL ∧ Cond.fieldLink "PathHouse$Path" e.1 c n dsc ∈ gW := fa_0
theorem pl3_ok : PoolOK "PathHouse$Path" pl3 mtab mt := pool_of pl3_f pl3_m pl3_k pl3_i pl3_j pl3_s pl3_g
def pl4 : Pool := ([(47, 6, 3, 0), (31, 6, 4, 0), (9, 5, 0, 1), (15, 5, 1, 1), (19, 5, 2, 1), (22, 5, 3, 1), (268, 2, 5, 0), (273, 2, 6, 0), (75, 4, 1, 0), (96, 4, 2, 0), (99, 8, 0, 0), (89, 8, 1, 0), (111, 9, 1, 0), (159, 9, 2, 0), (162, 9, 3, 0), (155, 9, 4, 0), (165, 9, 5, 0), (167, 9, 6, 0), (177, 9, 7, 0), (229, 10, 0, 0), (235, 10, 1, 0), (185, 10, 2, 0), (210, 10, 3, 0), (244, 10, 4, 0), (238, 10, 5, 0), (247, 10, 6, 0), (250, 10, 7, 0), (264, 10, 8, 0)], [(3, 9999), (25, 85), (34, 83), (40, 47), (43, 55), (50, 87), (68, 56), (74, 108), (79, 273), (85, 58), (115, 86), (119, 59), (132, 54), (104, 109), (135, 95), (138, 53), (64, 142), (141, 60), (152, 52), (53, 92), (57, 145), (61, 50), (144, 61), (148, 62), (170, 51), (173, 63), (183, 111), (188, 64), (198, 66), (204, 67), (126, 88), (207, 68), (213, 74), (254, 143), (257, 76), (279, 77), (293, 78), (285, 90), (276, 26), (297, 79), (310, 80), (220, 116), (223, 71), (123, 91), (300, 117), (260, 75), (217, 70), (232, 115), (201, 69), (226, 72), (241, 73), (191, 65), (194, 114), (129, 110), (93, 57), (107, 96)], [(38, 5), (72, 9), (102, 10), (181, 11), (269, 3)], [], [], [(304, 3), (306, 1), (308, 9), (283, 4), (289, 2), (291, 7)], [])
theorem pl4_f : ∀ e ∈ pl4.1, FOK "PathHouse$QueryReader" e := fa_c (⟨by decide, _, cl6, by decide, Or.inr ⟨"PathHouse", nw (tw1 (i := 53) rfl) rfl⟩, fun h => absurd h (by decide)⟩) (fa_c (⟨by decide, _, cl6, by decide, Or.inr ⟨"PathHouse", nw (tw1 (i := 55) rfl) rfl⟩, fun h => absurd h (by decide)⟩) (fa_c (⟨by decide, _, cl5, by decide, Or.inl (gw (tw1 (i := 100) rfl) rfl), fun h => ⟨rfl, gw (tw1 (i := 100) rfl) rfl⟩⟩) (fa_c (⟨by decide, _, cl5, by decide, Or.inl (gw (tw1 (i := 101) rfl) rfl), fun h => ⟨rfl, gw (tw1 (i := 101) rfl) rfl⟩⟩) (fa_c (⟨by decide, _, cl5, by decide, Or.inl (gw (tw1 (i := 102) rfl) rfl), fun h => ⟨rfl, gw (tw1 (i := 102) rfl) rfl⟩⟩) (fa_c (⟨by decide, _, cl5, by decide, Or.inl (gw (tw1 (i := 103) rfl) rfl), fun h => ⟨rfl, gw (tw1 (i := 103) rfl) rfl⟩⟩) (fa_c (⟨by decide, _, cl2, by decide, Or.inr ⟨"PathHouse", nw (tw2 (i := 116) rfl) rfl⟩, fun h => absurd h (by decide)⟩) (fa_c (⟨by decide, _, cl2, by decide, Or.inr ⟨"PathHouse", nw (tw2 (i := 121) rfl) rfl⟩, fun h => absurd h (by decide)⟩) (fa_c (⟨by decide, _, cl4, by decide, Or.inr ⟨"PathHouse", nw (tw3 (i := 196) rfl) rfl⟩, fun h => absurd h (by decide)⟩) (fa_c (⟨by decide, _, cl4, by decide, Or.inr ⟨"PathHouse", nw (tw3 (i := 201) rfl) rfl⟩, fun h => absurd h (by decide)⟩) (fa_c (⟨by decide, _, cl8, by decide, Or.inr ⟨"PathHouse", nw (tw3 (i := 228) rfl) rfl⟩, fun h => absurd h (by decide)⟩) (fa_c (⟨by decide, _, cl8, by decide, Or.inr ⟨"PathHouse", nw (tw3 (i := 230) rfl) rfl⟩, fun h => absurd h (by decide)⟩) (fa_c (⟨by decide, _, cl9, by decide, Or.inr ⟨"PathHouse", nw (tw4 (i := 19) rfl) rfl⟩, fun h => absurd h (by decide)⟩) (fa_c (⟨by decide, _, cl9, by decide, Or.inr ⟨"PathHouse", nw (tw4 (i := 21) rfl) rfl⟩, fun h => absurd h (by decide)⟩) (fa_c (⟨by decide, _, cl9, by decide, Or.inr ⟨"PathHouse", nw (tw4 (i := 23) rfl) rfl⟩, fun h => absurd h (by decide)⟩) (fa_c (⟨by decide, _, cl9, by decide, Or.inr ⟨"PathHouse", nw (tw4 (i := 26) rfl) rfl⟩, fun h => absurd h (by decide)⟩) (fa_c (⟨by decide, _, cl9, by decide, Or.inr ⟨"PathHouse", nw (tw4 (i := 27) rfl) rfl⟩, fun h => absurd h (by decide)⟩) (fa_c (⟨by decide, _, cl9, by decide, Or.inr ⟨"PathHouse", nw (tw4 (i := 30) rfl) rfl⟩, fun h => absurd h (by decide)⟩) (fa_c (⟨by decide, _, cl9, by decide, Or.inr ⟨"PathHouse", nw (tw4 (i := 33) rfl) rfl⟩, fun h => absurd h (by decide)⟩) (fa_c (⟨by decide, _, cl10, by decide, Or.inr ⟨"PathHouse", nw (tw4 (i := 97) rfl) rfl⟩, fun h => absurd h (by decide)⟩) (fa_c (⟨by decide, _, cl10, by decide, Or.inr ⟨"PathHouse", nw (tw4 (i := 99) rfl) rfl⟩, fun h => absurd h (by decide)⟩) (fa_c (⟨by decide, _, cl10, by decide, Or.inr ⟨"PathHouse", nw (tw4 (i := 101) rfl) rfl⟩, fun h => absurd h (by decide)⟩) (fa_c (⟨by decide, _, cl10, by decide, Or.inr ⟨"PathHouse", nw (tw4 (i := 103) rfl) rfl⟩, fun h => absurd h (by decide)⟩) (fa_c (⟨by decide, _, cl10, by decide, Or.inr ⟨"PathHouse", nw (tw4 (i := 105) rfl) rfl⟩, fun h => absurd h (by decide)⟩) (fa_c (⟨by decide, _, cl10, by decide, Or.inr ⟨"PathHouse", nw (tw4 (i := 107) rfl) rfl⟩, fun h => absurd h (by decide)⟩) (fa_c (⟨by decide, _, cl10, by decide, Or.inr ⟨"PathHouse", nw (tw4 (i := 109) rfl) rfl⟩, fun h => absurd h (by decide)⟩) (fa_c (⟨by decide, _, cl10, by decide, Or.inr ⟨"PathHouse", nw (tw4 (i := 112) rfl) rfl⟩, fun h => absurd h (by decide)⟩) (fa_c (⟨by decide, _, cl10, by decide, Or.inr ⟨"PathHouse", nw (tw4 (i := 114) rfl) rfl⟩, fun h => absurd h (by decide)⟩) fa_0)))))))))))))))))))))))))))
theorem pl4_m : ∀ e ∈ pl4.2.1, MOK "PathHouse$QueryReader" e := fa_c (Or.inl ⟨rfl, mt_no, gw (tw1 (i := 99) rfl) rfl, gw (tw1 (i := 41) rfl) rfl, gw (tw1 (i := 42) rfl) rfl⟩) (fa_c (Or.inr ⟨(show (85 : Nat) ≠ 9999 by decide), mE85, 0, 6, 1, rfl, rfl, mK85.1, mK85.2, Or.inr ⟨"PathHouse", nw (tw3 (i := 183) rfl) rfl⟩⟩) (fa_c (Or.inr ⟨(show (83 : Nat) ≠ 9999 by decide), mE83, 2, 6, 0, rfl, rfl, mK83.1, mK83.2, Or.inr ⟨"PathHouse", nw (tw3 (i := 184) rfl) rfl⟩⟩) (fa_c (Or.inr ⟨(show (47 : Nat) ≠ 9999 by decide), mE47, 1, 2000, 0, rfl, rfl, mK47.1, mK47.2, Or.inr ⟨"PathHouse", nw (tw3 (i := 187) rfl) rfl⟩⟩) (fa_c (Or.inr ⟨(show (55 : Nat) ≠ 9999 by decide), mE55, 2, 5, 1, rfl, rfl, mK55.1, mK55.2, Or.inl (gw (tw3 (i := 210) rfl) rfl)⟩) (fa_c (Or.inr ⟨(show (87 : Nat) ≠ 9999 by decide), mE87, 0, 6, 0, rfl, rfl, mK87.1, mK87.2, Or.inr ⟨"PathHouse", nw (tw3 (i := 214) rfl) rfl⟩⟩) (fa_c (Or.inr ⟨(show (56 : Nat) ≠ 9999 by decide), mE56, 2, 5, 0, rfl, rfl, mK56.1, mK56.2, Or.inl (gw (tw3 (i := 215) rfl) rfl)⟩) (fa_c (Or.inr ⟨(show (108 : Nat) ≠ 9999 by decide), mE108, 0, 2000, 0, rfl, rfl, mK108.1, mK108.2, Or.inr ⟨"PathHouse", nw (tw3 (i := 221) rfl) rfl⟩⟩) (fa_c (Or.inr ⟨(show (273 : Nat) ≠ 9999 by decide), mE273, 1, 0, 1, rfl, rfl, mK273.1, mK273.2, Or.inl (gw (tw3 (i := 237) rfl) rfl)⟩) (fa_c (Or.inr ⟨(show (58 : Nat) ≠ 9999 by decide), mE58, 2, 5, 1, rfl, rfl, mK58.1, mK58.2, Or.inl (gw (tw3 (i := 238) rfl) rfl)⟩) (fa_c (Or.inr ⟨(show (86 : Nat) ≠ 9999 by decide), mE86, 0, 6, 1, rfl, rfl, mK86.1, mK86.2, Or.inr ⟨"PathHouse", nw (tw4 (i := 2) rfl) rfl⟩⟩) (fa_c (Or.inr ⟨(show (59 : Nat) ≠ 9999 by decide), mE59, 1, 5, 3, rfl, rfl, mK59.1, mK59.2, Or.inl (gw (tw4 (i := 3) rfl) rfl)⟩) (fa_c (Or.inr ⟨(show (54 : Nat) ≠ 9999 by decide), mE54, 0, 5, 1, rfl, rfl, mK54.1, mK54.2, Or.inl (gw (tw4 (i := 7) rfl) rfl)⟩) (fa_c (Or.inr ⟨(show (109 : Nat) ≠ 9999 by decide), mE109, 1, 2000, 0, rfl, rfl, mK109.1, mK109.2, Or.inr ⟨"PathHouse", nw (tw4 (i := 13) rfl) rfl⟩⟩) (fa_c (Or.inr ⟨(show (95 : Nat) ≠ 9999 by decide), mE95, 0, 6, 3, rfl, rfl, mK95.1, mK95.2, Or.inr ⟨"PathHouse", nw (tw4 (i := 51) rfl) rfl⟩⟩) (fa_c (Or.inr ⟨(show (53 : Nat) ≠ 9999 by decide), mE53, 0, 5, 1, rfl, rfl, mK53.1, mK53.2, Or.inl (gw (tw4 (i := 52) rfl) rfl)⟩) (fa_c (Or.inr ⟨(show (142 : Nat) ≠ 9999 by decide), mE142, 1, 1000, 1, rfl, rfl, mK142.1, mK142.2, Or.inr ⟨"PathHouse", nw (tw4 (i := 56) rfl) rfl⟩⟩) (fa_c (Or.inr ⟨(show (60 : Nat) ≠ 9999 by decide), mE60, 1, 5, 3, rfl, rfl, mK60.1, mK60.2, Or.inl (gw (tw4 (i := 57) rfl) rfl)⟩) (fa_c (Or.inr ⟨(show (52 : Nat) ≠ 9999 by decide), mE52, 1, 5, 2, rfl, rfl, mK52.1, mK52.2, Or.inl (gw (tw4 (i := 61) rfl) rfl)⟩) (fa_c (Or.inr ⟨(show (92 : Nat) ≠ 9999 by decide), mE92, 1, 6, 2, rfl, rfl, mK92.1, mK92.2, Or.inr ⟨"PathHouse", nw (tw4 (i := 65) rfl) rfl⟩⟩) (fa_c (Or.inr ⟨(show (145 : Nat) ≠ 9999 by decide), mE145, 1, 1000, 1, rfl, rfl, mK145.1, mK145.2, Or.inr ⟨"PathHouse", nw (tw4 (i := 66) rfl) rfl⟩⟩) (fa_c (Or.inr ⟨(show (50 : Nat) ≠ 9999 by decide), mE50, 2, 5, 0, rfl, rfl, mK50.1, mK50.2, Or.inl (gw (tw4 (i := 67) rfl) rfl)⟩) (fa_c (Or.inr ⟨(show (61 : Nat) ≠ 9999 by decide), mE61, 2, 5, 3, rfl, rfl, mK61.1, mK61.2, Or.inl (gw (tw4 (i := 71) rfl) rfl)⟩) (fa_c (Or.inr ⟨(show (62 : Nat) ≠ 9999 by decide), mE62, 0, 5, 3, rfl, rfl, mK62.1, mK62.2, Or.inl (gw (tw4 (i := 75) rfl) rfl)⟩) (fa_c (Or.inr ⟨(show (51 : Nat) ≠ 9999 by decide), mE51, 0, 5, 0, rfl, rfl, mK51.1, mK51.2, Or.inl (gw (tw4 (i := 79) rfl) rfl)⟩) (fa_c (Or.inr ⟨(show (63 : Nat) ≠ 9999 by decide), mE63, 1, 5, 3, rfl, rfl, mK63.1, mK63.2, Or.inl (gw (tw4 (i := 83) rfl) rfl)⟩) (fa_c (Or.inr ⟨(show (111 : Nat) ≠ 9999 by decide), mE111, 2, 2000, 0, rfl, rfl, mK111.1, mK111.2, Or.inr ⟨"PathHouse", nw (tw4 (i := 89) rfl) rfl⟩⟩) (fa_c (Or.inr ⟨(show (64 : Nat) ≠ 9999 by decide), mE64, 1, 5, 3, rfl, rfl, mK64.1, mK64.2, Or.inl (gw (tw4 (i := 134) rfl) rfl)⟩) (fa_c (Or.inr ⟨(show (66 : Nat) ≠ 9999 by decide), mE66, 0, 5, 3, rfl, rfl, mK66.1, mK66.2, Or.inl (gw (tw4 (i := 138) rfl) rfl)⟩) (fa_c (Or.inr ⟨(show (67 : Nat) ≠ 9999 by decide), mE67, 0, 5, 3, rfl, rfl, mK67.1, mK67.2, Or.inl (gw (tw4 (i := 142) rfl) rfl)⟩) (fa_c (Or.inr ⟨(show (88 : Nat) ≠ 9999 by decide), mE88, 1, 6, 0, rfl, rfl, mK88.1, mK88.2, Or.inr ⟨"PathHouse", nw (tw4 (i := 146) rfl) rfl⟩⟩) (fa_c (Or.inr ⟨(show (68 : Nat) ≠ 9999 by decide), mE68, 0, 5, 3, rfl, rfl, mK68.1, mK68.2, Or.inl (gw (tw4 (i := 147) rfl) rfl)⟩) (fa_c (Or.inr ⟨(show (74 : Nat) ≠ 9999 by decide), mE74, 1, 5, 3, rfl, rfl, mK74.1, mK74.2, Or.inl (gw (tw4 (i := 151) rfl) rfl)⟩) (fa_c (Or.inr ⟨(show (143 : Nat) ≠ 9999 by decide), mE143, 1, 1000, 1, rfl, rfl, mK143.1, mK143.2, Or.inr ⟨"PathHouse", nw (tw4 (i := 155) rfl) rfl⟩⟩) (fa_c (Or.inr ⟨(show (76 : Nat) ≠ 9999 by decide), mE76, 0, 5, 3, rfl, rfl, mK76.1, mK76.2, Or.inl (gw (tw4 (i := 158) rfl) rfl)⟩) (fa_c (Or.inr ⟨(show (77 : Nat) ≠ 9999 by decide), mE77, 1, 5, 3, rfl, rfl, mK77.1, mK77.2, Or.inl (gw (tw4 (i := 162) rfl) rfl)⟩) (fa_c (Or.inr ⟨(show (78 : Nat) ≠ 9999 by decide), mE78, 1, 5, 1, rfl, rfl, mK78.1, mK78.2, Or.inl (gw (tw4 (i := 166) rfl) rfl)⟩) (fa_c (Or.inr ⟨(show (90 : Nat) ≠ 9999 by decide), mE90, 3, 6, 1, rfl, rfl, mK90.1, mK90.2, Or.inr ⟨"PathHouse", nw (tw4 (i := 171) rfl) rfl⟩⟩) (fa_c (Or.inr ⟨(show (26 : Nat) ≠ 9999 by decide), mE26, 4, 2000, 0, rfl, rfl, mK26.1, mK26.2, Or.inr ⟨"PathHouse", nw (tw4 (i := 178) rfl) rfl⟩⟩) (fa_c (Or.inr ⟨(show (79 : Nat) ≠ 9999 by decide), mE79, 0, 5, 3, rfl, rfl, mK79.1, mK79.2, Or.inl (gw (tw4 (i := 179) rfl) rfl)⟩) (fa_c (Or.inr ⟨(show (80 : Nat) ≠ 9999 by decide), mE80, 1, 5, 1, rfl, rfl, mK80.1, mK80.2, Or.inl (gw (tw4 (i := 183) rfl) rfl)⟩) (fa_c (Or.inr ⟨(show (116 : Nat) ≠ 9999 by decide), mE116, 0, 10, 1, rfl, rfl, mK116.1, mK116.2, Or.inr ⟨"PathHouse", nw (tw4 (i := 187) rfl) rfl⟩⟩) (fa_c (Or.inr ⟨(show (71 : Nat) ≠ 9999 by decide), mE71, 0, 5, 1, rfl, rfl, mK71.1, mK71.2, Or.inl (gw (tw4 (i := 195) rfl) rfl)⟩) (fa_c (Or.inr ⟨(show (91 : Nat) ≠ 9999 by decide), mE91, 0, 6, 1, rfl, rfl, mK91.1, mK91.2, Or.inr ⟨"PathHouse", nw (tw4 (i := 199) rfl) rfl⟩⟩) (fa_c (Or.inr ⟨(show (117 : Nat) ≠ 9999 by decide), mE117, 1, 10, 1, rfl, rfl, mK117.1, mK117.2, Or.inr ⟨"PathHouse", nw (tw4 (i := 200) rfl) rfl⟩⟩) (fa_c (Or.inr ⟨(show (75 : Nat) ≠ 9999 by decide), mE75, 2, 1000, 3, rfl, rfl, mK75.1, mK75.2, Or.inl (gw (tw4 (i := 206) rfl) rfl)⟩) (fa_c (Or.inr ⟨(show (70 : Nat) ≠ 9999 by decide), mE70, 1, 5, 3, rfl, rfl, mK70.1, mK70.2, Or.inl (gw (tw4 (i := 211) rfl) rfl)⟩) (fa_c (Or.inr ⟨(show (115 : Nat) ≠ 9999 by decide), mE115, 0, 10, 1, rfl, rfl, mK115.1, mK115.2, Or.inr ⟨"PathHouse", nw (tw4 (i := 215) rfl) rfl⟩⟩) (fa_c (Or.inr ⟨(show (69 : Nat) ≠ 9999 by decide), mE69, 1, 5, 3, rfl, rfl, mK69.1, mK69.2, Or.inl (gw (tw4 (i := 216) rfl) rfl)⟩) (fa_c (Or.inr ⟨(show (72 : Nat) ≠ 9999 by decide), mE72, 1, 5, 3, rfl, rfl, mK72.1, mK72.2, Or.inl (gw (tw4 (i := 220) rfl) rfl)⟩) (fa_c (Or.inr ⟨(show (73 : Nat) ≠ 9999 by decide), mE73, 0, 5, 1, rfl, rfl, mK73.1, mK73.2, Or.inl (gw (tw4 (i := 224) rfl) rfl)⟩) (fa_c (Or.inr ⟨(show (65 : Nat) ≠ 9999 by decide), mE65, 1, 5, 1, rfl, rfl, mK65.1, mK65.2, Or.inl (gw (tw4 (i := 228) rfl) rfl)⟩) (fa_c (Or.inr ⟨(show (114 : Nat) ≠ 9999 by decide), mE114, 0, 10, 3, rfl, rfl, mK114.1, mK114.2, Or.inr ⟨"PathHouse", nw (tw4 (i := 232) rfl) rfl⟩⟩) (fa_c (Or.inr ⟨(show (110 : Nat) ≠ 9999 by decide), mE110, 0, 9, 1, rfl, rfl, mK110.1, mK110.2, Or.inr ⟨"PathHouse", nw (tw5 (i := 7) rfl) rfl⟩⟩) (fa_c (Or.inr ⟨(show (57 : Nat) ≠ 9999 by decide), mE57, 2, 5, 1, rfl, rfl, mK57.1, mK57.2, Or.inl (gw (tw5 (i := 11) rfl) rfl)⟩) (fa_c (Or.inr ⟨(show (96 : Nat) ≠ 9999 by decide), mE96, 0, 6, 3, rfl, rfl, mK96.1, mK96.2, Or.inr ⟨"PathHouse", nw (tw5 (i := 15) rfl) rfl⟩⟩) fa_0)))))))))))))))))))))))))))))))))))))))))))))))))))))))
theorem pl4_k : ∀ e ∈ pl4.2.2.1, KOK "PathHouse$QueryReader" e := fa_c (⟨fun _ => ⟨by decide, _, cl4, gw (tw3 (i := 185) rfl) rfl, gw (tw3 (i := 186) rfl) rfl, gw (tw1 (i := 28) rfl) rfl⟩, fun h => absurd h (by decide)⟩) (fa_c (⟨fun _ => ⟨by decide, _, cl8, gw (tw3 (i := 219) rfl) rfl, gw (tw3 (i := 220) rfl) rfl, gw (tw1 (i := 29) rfl) rfl⟩, fun h => absurd h (by decide)⟩) (fa_c (⟨fun _ => ⟨by decide, _, cl9, gw (tw4 (i := 11) rfl) rfl, gw (tw4 (i := 12) rfl) rfl, gw (tw1 (i := 30) rfl) rfl⟩, fun h => absurd h (by decide)⟩) (fa_c (⟨fun _ => ⟨by decide, _, cl10, gw (tw4 (i := 87) rfl) rfl, gw (tw4 (i := 88) rfl) rfl, gw (tw1 (i := 31) rfl) rfl⟩, fun h => absurd h (by decide)⟩) (fa_c (⟨fun _ => ⟨by decide, _, cl2, gw (tw4 (i := 177) rfl) rfl, gw (tw2 (i := 67) rfl) rfl, gw (tw1 (i := 16) rfl) rfl⟩, fun h => absurd h (by decide)⟩) fa_0))))
theorem pl4_i : ∀ e ∈ pl4.2.2.2.1, Cond.constant "PathHouse$QueryReader" e.1 e.2 ∈ gW := fa_0
theorem pl4_j : ∀ e ∈ pl4.2.2.2.2.1, Cond.constantLong "PathHouse$QueryReader" e.1 e.2 ∈ gW := fa_0
theorem pl4_s : ∀ e ∈ pl4.2.2.2.2.2.1, ∃ tx, ("PathHouse$QueryReader", e.1, tx, e.2) ∈ strL := fa_c (⟨"length", by decide +kernel⟩) (fa_c (⟨"count", by decide +kernel⟩) (fa_c (⟨"value", by decide +kernel⟩) (fa_c (⟨"null", by decide +kernel⟩) (fa_c (⟨"false", by decide +kernel⟩) (fa_c (⟨"true", by decide +kernel⟩) fa_0)))))
theorem pl4_g : ∀ e ∈ pl4.2.2.2.2.2.2, ∃ c n dsc, (c, n, dsc, e.2) ∈ stL ∧ Cond.fieldLink "PathHouse$QueryReader" e.1 c n dsc ∈ gW := fa_0
theorem pl4_ok : PoolOK "PathHouse$QueryReader" pl4 mtab mt := pool_of pl4_f pl4_m pl4_k pl4_i pl4_j pl4_s pl4_g
def pl5 : Pool := ([(19, 6, 0, 1), (9, 6, 1, 1), (88, 6, 2, 1), (29, 6, 3, 1), (32, 6, 4, 1), (35, 6, 5, 1), (15, 6, 6, 1)], [(3, 9999), (23, 252), (49, 86), (45, 85), (57, 254), (62, 255), (66, 88), (53, 83), (77, 142), (85, 253), (97, 98), (117, 99), (120, 100), (127, 101), (100, 102), (130, 103), (70, 84), (133, 104), (103, 93), (106, 94), (91, 276), (74, 87), (110, 97), (114, 144)], [(38, 200)], [(124, 55296), (125, 56319), (126, 65536), (137, 57343), (138, 1114111)], [(81, 10), (83, 9007199254740992)], [(40, 6)], [])
theorem pl5_f : ∀ e ∈ pl5.1, FOK "PathHouse$Reader" e := fa_c (⟨by decide, _, cl6, by decide, Or.inl (gw (tw1 (i := 49) rfl) rfl), fun h => ⟨rfl, gw (tw1 (i := 49) rfl) rfl⟩⟩) (fa_c (⟨by decide, _, cl6, by decide, Or.inl (gw (tw1 (i := 50) rfl) rfl), fun h => ⟨rfl, gw (tw1 (i := 50) rfl) rfl⟩⟩) (fa_c (⟨by decide, _, cl6, by decide, Or.inl (gw (tw1 (i := 51) rfl) rfl), fun h => ⟨rfl, gw (tw1 (i := 51) rfl) rfl⟩⟩) (fa_c (⟨by decide, _, cl6, by decide, Or.inl (gw (tw1 (i := 52) rfl) rfl), fun h => ⟨rfl, gw (tw1 (i := 52) rfl) rfl⟩⟩) (fa_c (⟨by decide, _, cl6, by decide, Or.inl (gw (tw1 (i := 54) rfl) rfl), fun h => ⟨rfl, gw (tw1 (i := 54) rfl) rfl⟩⟩) (fa_c (⟨by decide, _, cl6, by decide, Or.inl (gw (tw1 (i := 57) rfl) rfl), fun h => ⟨rfl, gw (tw1 (i := 57) rfl) rfl⟩⟩) (fa_c (⟨by decide, _, cl6, by decide, Or.inl (gw (tw1 (i := 59) rfl) rfl), fun h => ⟨rfl, gw (tw1 (i := 59) rfl) rfl⟩⟩) fa_0))))))
theorem pl5_m : ∀ e ∈ pl5.2.1, MOK "PathHouse$Reader" e := fa_c (Or.inl ⟨rfl, mt_no, gw (tw1 (i := 48) rfl) rfl, gw (tw1 (i := 41) rfl) rfl, gw (tw1 (i := 42) rfl) rfl⟩) (fa_c (Or.inr ⟨(show (252 : Nat) ≠ 9999 by decide), mE252, 2, 1000, 1, rfl, rfl, mK252.1, mK252.2, Or.inl (gw (tw1 (i := 204) rfl) rfl)⟩) (fa_c (Or.inr ⟨(show (86 : Nat) ≠ 9999 by decide), mE86, 0, 6, 1, rfl, rfl, mK86.1, mK86.2, Or.inl (gw (tw1 (i := 215) rfl) rfl)⟩) (fa_c (Or.inr ⟨(show (85 : Nat) ≠ 9999 by decide), mE85, 0, 6, 1, rfl, rfl, mK85.1, mK85.2, Or.inl (gw (tw1 (i := 219) rfl) rfl)⟩) (fa_c (Or.inr ⟨(show (254 : Nat) ≠ 9999 by decide), mE254, 0, 3000, 1, rfl, rfl, mK254.1, mK254.2, Or.inl (gw (tw2 (i := 167) rfl) rfl)⟩) (fa_c (Or.inr ⟨(show (255 : Nat) ≠ 9999 by decide), mE255, 1, 3000, 1, rfl, rfl, mK255.1, mK255.2, Or.inl (gw (tw2 (i := 177) rfl) rfl)⟩) (fa_c (Or.inr ⟨(show (88 : Nat) ≠ 9999 by decide), mE88, 1, 6, 0, rfl, rfl, mK88.1, mK88.2, Or.inl (gw (tw2 (i := 215) rfl) rfl)⟩) (fa_c (Or.inr ⟨(show (83 : Nat) ≠ 9999 by decide), mE83, 2, 6, 0, rfl, rfl, mK83.1, mK83.2, Or.inl (gw (tw2 (i := 219) rfl) rfl)⟩) (fa_c (Or.inr ⟨(show (142 : Nat) ≠ 9999 by decide), mE142, 1, 1000, 1, rfl, rfl, mK142.1, mK142.2, Or.inr ⟨"PathHouse", nw (tw2 (i := 230) rfl) rfl⟩⟩) (fa_c (Or.inr ⟨(show (253 : Nat) ≠ 9999 by decide), mE253, 2, 1000, 2, rfl, rfl, mK253.1, mK253.2, Or.inl (gw (tw2 (i := 233) rfl) rfl)⟩) (fa_c (Or.inr ⟨(show (98 : Nat) ≠ 9999 by decide), mE98, 1, 6, 1, rfl, rfl, mK98.1, mK98.2, Or.inl (gw (tw3 (i := 5) rfl) rfl)⟩) (fa_c (Or.inr ⟨(show (99 : Nat) ≠ 9999 by decide), mE99, 1, 1000, 1, rfl, rfl, mK99.1, mK99.2, Or.inl (gw (tw3 (i := 9) rfl) rfl)⟩) (fa_c (Or.inr ⟨(show (100 : Nat) ≠ 9999 by decide), mE100, 1, 6, 1, rfl, rfl, mK100.1, mK100.2, Or.inl (gw (tw3 (i := 12) rfl) rfl)⟩) (fa_c (Or.inr ⟨(show (101 : Nat) ≠ 9999 by decide), mE101, 1, 1000, 1, rfl, rfl, mK101.1, mK101.2, Or.inl (gw (tw3 (i := 16) rfl) rfl)⟩) (fa_c (Or.inr ⟨(show (102 : Nat) ≠ 9999 by decide), mE102, 0, 6, 1, rfl, rfl, mK102.1, mK102.2, Or.inl (gw (tw3 (i := 22) rfl) rfl)⟩) (fa_c (Or.inr ⟨(show (103 : Nat) ≠ 9999 by decide), mE103, 1, 1000, 1, rfl, rfl, mK103.1, mK103.2, Or.inl (gw (tw3 (i := 26) rfl) rfl)⟩) (fa_c (Or.inr ⟨(show (84 : Nat) ≠ 9999 by decide), mE84, 1, 6, 1, rfl, rfl, mK84.1, mK84.2, Or.inl (gw (tw3 (i := 29) rfl) rfl)⟩) (fa_c (Or.inr ⟨(show (104 : Nat) ≠ 9999 by decide), mE104, 2, 1000, 1, rfl, rfl, mK104.1, mK104.2, Or.inl (gw (tw3 (i := 33) rfl) rfl)⟩) (fa_c (Or.inr ⟨(show (93 : Nat) ≠ 9999 by decide), mE93, 1, 6, 0, rfl, rfl, mK93.1, mK93.2, Or.inl (gw (tw3 (i := 38) rfl) rfl)⟩) (fa_c (Or.inr ⟨(show (94 : Nat) ≠ 9999 by decide), mE94, 0, 6, 3, rfl, rfl, mK94.1, mK94.2, Or.inl (gw (tw3 (i := 42) rfl) rfl)⟩) (fa_c (Or.inr ⟨(show (276 : Nat) ≠ 9999 by decide), mE276, 2, 1000, 3, rfl, rfl, mK276.1, mK276.2, Or.inl (gw (tw3 (i := 46) rfl) rfl)⟩) (fa_c (Or.inr ⟨(show (87 : Nat) ≠ 9999 by decide), mE87, 0, 6, 0, rfl, rfl, mK87.1, mK87.2, Or.inl (gw (tw3 (i := 141) rfl) rfl)⟩) (fa_c (Or.inr ⟨(show (97 : Nat) ≠ 9999 by decide), mE97, 2, 1000, 1, rfl, rfl, mK97.1, mK97.2, Or.inl (gw (tw5 (i := 19) rfl) rfl)⟩) (fa_c (Or.inr ⟨(show (144 : Nat) ≠ 9999 by decide), mE144, 1, 1000, 1, rfl, rfl, mK144.1, mK144.2, Or.inr ⟨"PathHouse", nw (tw5 (i := 22) rfl) rfl⟩⟩) fa_0)))))))))))))))))))))))
theorem pl5_k : ∀ e ∈ pl5.2.2.1, KOK "PathHouse$Reader" e := fa_c (⟨fun h => absurd h (by decide), fun h => absurd h (by decide)⟩) fa_0
theorem pl5_i : ∀ e ∈ pl5.2.2.2.1, Cond.constant "PathHouse$Reader" e.1 e.2 ∈ gW := fa_c (gw (tw3 (i := 19) rfl) rfl) (fa_c (gw (tw3 (i := 20) rfl) rfl) (fa_c (gw (tw3 (i := 21) rfl) rfl) (fa_c (gw (tw3 (i := 36) rfl) rfl) (fa_c (gw (tw3 (i := 37) rfl) rfl) fa_0))))
theorem pl5_j : ∀ e ∈ pl5.2.2.2.2.1, Cond.constantLong "PathHouse$Reader" e.1 e.2 ∈ gW := fa_c (gw (tw2 (i := 231) rfl) rfl) (fa_c (gw (tw2 (i := 232) rfl) rfl) fa_0)
theorem pl5_s : ∀ e ∈ pl5.2.2.2.2.2.1, ∃ tx, ("PathHouse$Reader", e.1, tx, e.2) ∈ strL := fa_c (⟨"the text has a fault", by decide +kernel⟩) fa_0
theorem pl5_g : ∀ e ∈ pl5.2.2.2.2.2.2, ∃ c n dsc, (c, n, dsc, e.2) ∈ stL ∧ Cond.fieldLink "PathHouse$Reader" e.1 c n dsc ∈ gW := fa_0
theorem pl5_ok : PoolOK "PathHouse$Reader" pl5 mtab mt := pool_of pl5_f pl5_m pl5_k pl5_i pl5_j pl5_s pl5_g
def pl6 : Pool := ([(11, 7, 0, 1), (17, 7, 1, 1)], [(3, 9999)], [(9, 3)], [], [], [], [])
theorem pl6_f : ∀ e ∈ pl6.1, FOK "PathHouse$Row" e := fa_c (⟨by decide, _, cl7, by decide, Or.inl (gw (tw5 (i := 73) rfl) rfl), fun h => ⟨rfl, gw (tw5 (i := 73) rfl) rfl⟩⟩) (fa_c (⟨by decide, _, cl7, by decide, Or.inl (gw (tw5 (i := 74) rfl) rfl), fun h => ⟨rfl, gw (tw5 (i := 74) rfl) rfl⟩⟩) fa_0)
theorem pl6_m : ∀ e ∈ pl6.2.1, MOK "PathHouse$Row" e := fa_c (Or.inl ⟨rfl, mt_no, gw (tw5 (i := 70) rfl) rfl, gw (tw1 (i := 41) rfl) rfl, gw (tw1 (i := 42) rfl) rfl⟩) fa_0
theorem pl6_k : ∀ e ∈ pl6.2.2.1, KOK "PathHouse$Row" e := fa_c (⟨fun _ => ⟨by decide, _, cl2, gw (tw5 (i := 71) rfl) rfl, gw (tw2 (i := 67) rfl) rfl, gw (tw1 (i := 16) rfl) rfl⟩, fun h => absurd h (by decide)⟩) fa_0
theorem pl6_i : ∀ e ∈ pl6.2.2.2.1, Cond.constant "PathHouse$Row" e.1 e.2 ∈ gW := fa_0
theorem pl6_j : ∀ e ∈ pl6.2.2.2.2.1, Cond.constantLong "PathHouse$Row" e.1 e.2 ∈ gW := fa_0
theorem pl6_s : ∀ e ∈ pl6.2.2.2.2.2.1, ∃ tx, ("PathHouse$Row", e.1, tx, e.2) ∈ strL := fa_0
theorem pl6_g : ∀ e ∈ pl6.2.2.2.2.2.2, ∃ c n dsc, (c, n, dsc, e.2) ∈ stL ∧ Cond.fieldLink "PathHouse$Row" e.1 c n dsc ∈ gW := fa_0
theorem pl6_ok : PoolOK "PathHouse$Row" pl6 mtab mt := pool_of pl6_f pl6_m pl6_k pl6_i pl6_j pl6_s pl6_g
def pl7 : Pool := ([(10, 8, 0, 1)], [(1, 9999), (9, 266)], [(7, 1)], [], [], [], [])
theorem pl7_f : ∀ e ∈ pl7.1, FOK "PathHouse$Segment" e := fa_c (⟨by decide, _, cl8, by decide, Or.inl (gw (tw3 (i := 227) rfl) rfl), fun h => ⟨rfl, gw (tw3 (i := 227) rfl) rfl⟩⟩) fa_0
theorem pl7_m : ∀ e ∈ pl7.2.1, MOK "PathHouse$Segment" e := fa_c (Or.inl ⟨rfl, mt_no, gw (tw3 (i := 224) rfl) rfl, gw (tw1 (i := 41) rfl) rfl, gw (tw1 (i := 42) rfl) rfl⟩) (fa_c (Or.inr ⟨(show (266 : Nat) ≠ 9999 by decide), mE266, 0, 2000, 0, rfl, rfl, mK266.1, mK266.2, Or.inl (gw (tw3 (i := 226) rfl) rfl)⟩) fa_0)
theorem pl7_k : ∀ e ∈ pl7.2.2.1, KOK "PathHouse$Segment" e := fa_c (⟨fun _ => ⟨by decide, _, cl0, gw (tw3 (i := 225) rfl) rfl, gw (tw2 (i := 73) rfl) rfl, gw (tw1 (i := 19) rfl) rfl⟩, fun h => absurd h (by decide)⟩) fa_0
theorem pl7_i : ∀ e ∈ pl7.2.2.2.1, Cond.constant "PathHouse$Segment" e.1 e.2 ∈ gW := fa_0
theorem pl7_j : ∀ e ∈ pl7.2.2.2.2.1, Cond.constantLong "PathHouse$Segment" e.1 e.2 ∈ gW := fa_0
theorem pl7_s : ∀ e ∈ pl7.2.2.2.2.2.1, ∃ tx, ("PathHouse$Segment", e.1, tx, e.2) ∈ strL := fa_0
theorem pl7_g : ∀ e ∈ pl7.2.2.2.2.2.2, ∃ c n dsc, (c, n, dsc, e.2) ∈ stL ∧ Cond.fieldLink "PathHouse$Segment" e.1 c n dsc ∈ gW := fa_0
theorem pl7_ok : PoolOK "PathHouse$Segment" pl7 mtab mt := pool_of pl7_f pl7_m pl7_k pl7_i pl7_j pl7_s pl7_g
def pl8 : Pool := ([(13, 9, 0, 1), (7, 9, 6, 1)], [(1, 9999)], [], [], [], [], [])
theorem pl8_f : ∀ e ∈ pl8.1, FOK "PathHouse$Selector" e := fa_c (⟨by decide, _, cl9, by decide, Or.inl (gw (tw4 (i := 17) rfl) rfl), fun h => ⟨rfl, gw (tw4 (i := 17) rfl) rfl⟩⟩) (fa_c (⟨by decide, _, cl9, by decide, Or.inl (gw (tw4 (i := 29) rfl) rfl), fun h => ⟨rfl, gw (tw4 (i := 29) rfl) rfl⟩⟩) fa_0)
theorem pl8_m : ∀ e ∈ pl8.2.1, MOK "PathHouse$Selector" e := fa_c (Or.inl ⟨rfl, mt_no, gw (tw4 (i := 16) rfl) rfl, gw (tw1 (i := 41) rfl) rfl, gw (tw1 (i := 42) rfl) rfl⟩) fa_0
theorem pl8_k : ∀ e ∈ pl8.2.2.1, KOK "PathHouse$Selector" e := fa_0
theorem pl8_i : ∀ e ∈ pl8.2.2.2.1, Cond.constant "PathHouse$Selector" e.1 e.2 ∈ gW := fa_0
theorem pl8_j : ∀ e ∈ pl8.2.2.2.2.1, Cond.constantLong "PathHouse$Selector" e.1 e.2 ∈ gW := fa_0
theorem pl8_s : ∀ e ∈ pl8.2.2.2.2.2.1, ∃ tx, ("PathHouse$Selector", e.1, tx, e.2) ∈ strL := fa_0
theorem pl8_g : ∀ e ∈ pl8.2.2.2.2.2.2, ∃ c n dsc, (c, n, dsc, e.2) ∈ stL ∧ Cond.fieldLink "PathHouse$Selector" e.1 c n dsc ∈ gW := fa_0
theorem pl8_ok : PoolOK "PathHouse$Selector" pl8 mtab mt := pool_of pl8_f pl8_m pl8_k pl8_i pl8_j pl8_s pl8_g
def pl9 : Pool := ([(46, 4, 2, 0), (7, 10, 0, 1), (13, 10, 1, 1), (19, 10, 2, 1), (42, 10, 7, 1)], [(1, 9999), (18, 266), (38, 115), (52, 116), (27, 112), (23, 269), (34, 113), (30, 271)], [(16, 1), (8, 11)], [], [], [], [])
theorem pl9_f : ∀ e ∈ pl9.1, FOK "PathHouse$Term" e := fa_c (⟨by decide, _, cl4, by decide, Or.inr ⟨"PathHouse", nw (tw3 (i := 200) rfl) rfl⟩, fun h => absurd h (by decide)⟩) (fa_c (⟨by decide, _, cl10, by decide, Or.inl (gw (tw4 (i := 95) rfl) rfl), fun h => ⟨rfl, gw (tw4 (i := 95) rfl) rfl⟩⟩) (fa_c (⟨by decide, _, cl10, by decide, Or.inl (gw (tw4 (i := 98) rfl) rfl), fun h => ⟨rfl, gw (tw4 (i := 98) rfl) rfl⟩⟩) (fa_c (⟨by decide, _, cl10, by decide, Or.inl (gw (tw4 (i := 100) rfl) rfl), fun h => ⟨rfl, gw (tw4 (i := 100) rfl) rfl⟩⟩) (fa_c (⟨by decide, _, cl10, by decide, Or.inl (gw (tw4 (i := 110) rfl) rfl), fun h => ⟨rfl, gw (tw4 (i := 110) rfl) rfl⟩⟩) fa_0))))
theorem pl9_m : ∀ e ∈ pl9.2.1, MOK "PathHouse$Term" e := fa_c (Or.inl ⟨rfl, mt_no, gw (tw4 (i := 92) rfl) rfl, gw (tw1 (i := 41) rfl) rfl, gw (tw1 (i := 42) rfl) rfl⟩) (fa_c (Or.inr ⟨(show (266 : Nat) ≠ 9999 by decide), mE266, 0, 2000, 0, rfl, rfl, mK266.1, mK266.2, Or.inl (gw (tw4 (i := 94) rfl) rfl)⟩) (fa_c (Or.inr ⟨(show (115 : Nat) ≠ 9999 by decide), mE115, 0, 10, 1, rfl, rfl, mK115.1, mK115.2, Or.inl (gw (tw4 (i := 191) rfl) rfl)⟩) (fa_c (Or.inr ⟨(show (116 : Nat) ≠ 9999 by decide), mE116, 0, 10, 1, rfl, rfl, mK116.1, mK116.2, Or.inl (gw (tw4 (i := 204) rfl) rfl)⟩) (fa_c (Or.inr ⟨(show (112 : Nat) ≠ 9999 by decide), mE112, 0, 10, 1, rfl, rfl, mK112.1, mK112.2, Or.inl (gw (tw4 (i := 236) rfl) rfl)⟩) (fa_c (Or.inr ⟨(show (269 : Nat) ≠ 9999 by decide), mE269, 0, 0, 1, rfl, rfl, mK269.1, mK269.2, Or.inl (gw (tw5 (i := 0) rfl) rfl)⟩) (fa_c (Or.inr ⟨(show (113 : Nat) ≠ 9999 by decide), mE113, 1, 10, 3, rfl, rfl, mK113.1, mK113.2, Or.inl (gw (tw5 (i := 1) rfl) rfl)⟩) (fa_c (Or.inr ⟨(show (271 : Nat) ≠ 9999 by decide), mE271, 1, 0, 3, rfl, rfl, mK271.1, mK271.2, Or.inl (gw (tw5 (i := 5) rfl) rfl)⟩) fa_0)))))))
theorem pl9_k : ∀ e ∈ pl9.2.2.1, KOK "PathHouse$Term" e := fa_c (⟨fun _ => ⟨by decide, _, cl0, gw (tw4 (i := 93) rfl) rfl, gw (tw2 (i := 73) rfl) rfl, gw (tw1 (i := 19) rfl) rfl⟩, fun h => absurd h (by decide)⟩) (fa_c (⟨fun _ => ⟨by decide, _, cl10, gw (tw5 (i := 6) rfl) rfl, gw (tw4 (i := 88) rfl) rfl, gw (tw1 (i := 31) rfl) rfl⟩, fun h => absurd h (by decide)⟩) fa_0)
theorem pl9_i : ∀ e ∈ pl9.2.2.2.1, Cond.constant "PathHouse$Term" e.1 e.2 ∈ gW := fa_0
theorem pl9_j : ∀ e ∈ pl9.2.2.2.2.1, Cond.constantLong "PathHouse$Term" e.1 e.2 ∈ gW := fa_0
theorem pl9_s : ∀ e ∈ pl9.2.2.2.2.2.1, ∃ tx, ("PathHouse$Term", e.1, tx, e.2) ∈ strL := fa_0
theorem pl9_g : ∀ e ∈ pl9.2.2.2.2.2.2, ∃ c n dsc, (c, n, dsc, e.2) ∈ stL ∧ Cond.fieldLink "PathHouse$Term" e.1 c n dsc ∈ gW := fa_0
theorem pl9_ok : PoolOK "PathHouse$Term" pl9 mtab mt := pool_of pl9_f pl9_m pl9_k pl9_i pl9_j pl9_s pl9_g
def pl10 : Pool := ([(44, 6, 4, 0), (9, 11, 0, 1), (15, 11, 1, 1), (19, 11, 2, 1), (70, 2, 0, 0), (116, 2, 2, 0), (87, 2, 5, 0), (95, 2, 6, 0), (63, 2, 9, 0), (56, 2, 10, 0)], [(3, 9999), (23, 87), (28, 120), (36, 85), (40, 121), (66, 142), (47, 83), (53, 26), (59, 122), (75, 89), (83, 123), (105, 92), (109, 145), (91, 95), (99, 125), (113, 124), (119, 30), (123, 91), (32, 88), (102, 126), (127, 127), (130, 31)], [(51, 3)], [], [], [(73, 4), (79, 2), (81, 7)], [])
theorem pl10_f : ∀ e ∈ pl10.1, FOK "PathHouse$ValueReader" e := fa_c (⟨by decide, _, cl6, by decide, Or.inr ⟨"PathHouse", nw (tw1 (i := 56) rfl) rfl⟩, fun h => absurd h (by decide)⟩) (fa_c (⟨by decide, _, cl11, by decide, Or.inl (gw (tw1 (i := 84) rfl) rfl), fun h => ⟨rfl, gw (tw1 (i := 84) rfl) rfl⟩⟩) (fa_c (⟨by decide, _, cl11, by decide, Or.inl (gw (tw1 (i := 85) rfl) rfl), fun h => ⟨rfl, gw (tw1 (i := 85) rfl) rfl⟩⟩) (fa_c (⟨by decide, _, cl11, by decide, Or.inl (gw (tw1 (i := 86) rfl) rfl), fun h => ⟨rfl, gw (tw1 (i := 86) rfl) rfl⟩⟩) (fa_c (⟨by decide, _, cl2, by decide, Or.inr ⟨"PathHouse", nw (tw2 (i := 99) rfl) rfl⟩, fun h => absurd h (by decide)⟩) (fa_c (⟨by decide, _, cl2, by decide, Or.inr ⟨"PathHouse", nw (tw2 (i := 107) rfl) rfl⟩, fun h => absurd h (by decide)⟩) (fa_c (⟨by decide, _, cl2, by decide, Or.inr ⟨"PathHouse", nw (tw2 (i := 112) rfl) rfl⟩, fun h => absurd h (by decide)⟩) (fa_c (⟨by decide, _, cl2, by decide, Or.inr ⟨"PathHouse", nw (tw2 (i := 118) rfl) rfl⟩, fun h => absurd h (by decide)⟩) (fa_c (⟨by decide, _, cl2, by decide, Or.inr ⟨"PathHouse", nw (tw2 (i := 129) rfl) rfl⟩, fun h => absurd h (by decide)⟩) (fa_c (⟨by decide, _, cl2, by decide, Or.inr ⟨"PathHouse", nw (tw2 (i := 132) rfl) rfl⟩, fun h => absurd h (by decide)⟩) fa_0)))))))))
theorem pl10_m : ∀ e ∈ pl10.2.1, MOK "PathHouse$ValueReader" e := fa_c (Or.inl ⟨rfl, mt_no, gw (tw1 (i := 83) rfl) rfl, gw (tw1 (i := 41) rfl) rfl, gw (tw1 (i := 42) rfl) rfl⟩) (fa_c (Or.inr ⟨(show (87 : Nat) ≠ 9999 by decide), mE87, 0, 6, 0, rfl, rfl, mK87.1, mK87.2, Or.inr ⟨"PathHouse", nw (tw1 (i := 211) rfl) rfl⟩⟩) (fa_c (Or.inr ⟨(show (120 : Nat) ≠ 9999 by decide), mE120, 2, 11, 3, rfl, rfl, mK120.1, mK120.2, Or.inl (gw (tw1 (i := 223) rfl) rfl)⟩) (fa_c (Or.inr ⟨(show (85 : Nat) ≠ 9999 by decide), mE85, 0, 6, 1, rfl, rfl, mK85.1, mK85.2, Or.inr ⟨"PathHouse", nw (tw1 (i := 227) rfl) rfl⟩⟩) (fa_c (Or.inr ⟨(show (121 : Nat) ≠ 9999 by decide), mE121, 1, 1000, 1, rfl, rfl, mK121.1, mK121.2, Or.inl (gw (tw1 (i := 228) rfl) rfl)⟩) (fa_c (Or.inr ⟨(show (142 : Nat) ≠ 9999 by decide), mE142, 1, 1000, 1, rfl, rfl, mK142.1, mK142.2, Or.inr ⟨"PathHouse", nw (tw1 (i := 231) rfl) rfl⟩⟩) (fa_c (Or.inr ⟨(show (83 : Nat) ≠ 9999 by decide), mE83, 2, 6, 0, rfl, rfl, mK83.1, mK83.2, Or.inr ⟨"PathHouse", nw (tw1 (i := 234) rfl) rfl⟩⟩) (fa_c (Or.inr ⟨(show (26 : Nat) ≠ 9999 by decide), mE26, 4, 2000, 0, rfl, rfl, mK26.1, mK26.2, Or.inr ⟨"PathHouse", nw (tw2 (i := 68) rfl) rfl⟩⟩) (fa_c (Or.inr ⟨(show (122 : Nat) ≠ 9999 by decide), mE122, 1, 11, 0, rfl, rfl, mK122.1, mK122.2, Or.inl (gw (tw2 (i := 158) rfl) rfl)⟩) (fa_c (Or.inr ⟨(show (89 : Nat) ≠ 9999 by decide), mE89, 1, 6, 0, rfl, rfl, mK89.1, mK89.2, Or.inr ⟨"PathHouse", nw (tw2 (i := 163) rfl) rfl⟩⟩) (fa_c (Or.inr ⟨(show (123 : Nat) ≠ 9999 by decide), mE123, 0, 11, 2, rfl, rfl, mK123.1, mK123.2, Or.inl (gw (tw2 (i := 222) rfl) rfl)⟩) (fa_c (Or.inr ⟨(show (92 : Nat) ≠ 9999 by decide), mE92, 1, 6, 2, rfl, rfl, mK92.1, mK92.2, Or.inr ⟨"PathHouse", nw (tw2 (i := 226) rfl) rfl⟩⟩) (fa_c (Or.inr ⟨(show (145 : Nat) ≠ 9999 by decide), mE145, 1, 1000, 1, rfl, rfl, mK145.1, mK145.2, Or.inr ⟨"PathHouse", nw (tw2 (i := 236) rfl) rfl⟩⟩) (fa_c (Or.inr ⟨(show (95 : Nat) ≠ 9999 by decide), mE95, 0, 6, 3, rfl, rfl, mK95.1, mK95.2, Or.inr ⟨"PathHouse", nw (tw3 (i := 1) rfl) rfl⟩⟩) (fa_c (Or.inr ⟨(show (125 : Nat) ≠ 9999 by decide), mE125, 1, 11, 0, rfl, rfl, mK125.1, mK125.2, Or.inl (gw (tw3 (i := 60) rfl) rfl)⟩) (fa_c (Or.inr ⟨(show (124 : Nat) ≠ 9999 by decide), mE124, 1, 11, 1, rfl, rfl, mK124.1, mK124.2, Or.inl (gw (tw3 (i := 64) rfl) rfl)⟩) (fa_c (Or.inr ⟨(show (30 : Nat) ≠ 9999 by decide), mE30, 2, 2, 0, rfl, rfl, mK30.1, mK30.2, Or.inr ⟨"PathHouse", nw (tw3 (i := 68) rfl) rfl⟩⟩) (fa_c (Or.inr ⟨(show (91 : Nat) ≠ 9999 by decide), mE91, 0, 6, 1, rfl, rfl, mK91.1, mK91.2, Or.inr ⟨"PathHouse", nw (tw3 (i := 137) rfl) rfl⟩⟩) (fa_c (Or.inr ⟨(show (88 : Nat) ≠ 9999 by decide), mE88, 1, 6, 0, rfl, rfl, mK88.1, mK88.2, Or.inr ⟨"PathHouse", nw (tw3 (i := 142) rfl) rfl⟩⟩) (fa_c (Or.inr ⟨(show (126 : Nat) ≠ 9999 by decide), mE126, 1, 11, 0, rfl, rfl, mK126.1, mK126.2, Or.inl (gw (tw3 (i := 143) rfl) rfl)⟩) (fa_c (Or.inr ⟨(show (127 : Nat) ≠ 9999 by decide), mE127, 1, 11, 0, rfl, rfl, mK127.1, mK127.2, Or.inl (gw (tw3 (i := 147) rfl) rfl)⟩) (fa_c (Or.inr ⟨(show (31 : Nat) ≠ 9999 by decide), mE31, 1, 2, 3, rfl, rfl, mK31.1, mK31.2, Or.inr ⟨"PathHouse", nw (tw3 (i := 151) rfl) rfl⟩⟩) fa_0)))))))))))))))))))))
theorem pl10_k : ∀ e ∈ pl10.2.2.1, KOK "PathHouse$ValueReader" e := fa_c (⟨fun _ => ⟨by decide, _, cl2, gw (tw2 (i := 66) rfl) rfl, gw (tw2 (i := 67) rfl) rfl, gw (tw1 (i := 16) rfl) rfl⟩, fun h => absurd h (by decide)⟩) fa_0
theorem pl10_i : ∀ e ∈ pl10.2.2.2.1, Cond.constant "PathHouse$ValueReader" e.1 e.2 ∈ gW := fa_0
theorem pl10_j : ∀ e ∈ pl10.2.2.2.2.1, Cond.constantLong "PathHouse$ValueReader" e.1 e.2 ∈ gW := fa_0
theorem pl10_s : ∀ e ∈ pl10.2.2.2.2.2.1, ∃ tx, ("PathHouse$ValueReader", e.1, tx, e.2) ∈ strL := fa_c (⟨"null", by decide +kernel⟩) (fa_c (⟨"false", by decide +kernel⟩) (fa_c (⟨"true", by decide +kernel⟩) fa_0))
theorem pl10_g : ∀ e ∈ pl10.2.2.2.2.2.2, ∃ c n dsc, (c, n, dsc, e.2) ∈ stL ∧ Cond.fieldLink "PathHouse$ValueReader" e.1 c n dsc ∈ gW := fa_0
theorem pl10_ok : PoolOK "PathHouse$ValueReader" pl10 mtab mt := pool_of pl10_f pl10_m pl10_k pl10_i pl10_j pl10_s pl10_g
def pl11 : Pool := ([(74, 6, 5, 0), (91, 6, 6, 0), (168, 1, 3, 0), (130, 3, 1, 0), (9, 12, 0, 1), (18, 12, 1, 1), (27, 12, 2, 1), (34, 12, 3, 1), (41, 12, 4, 1), (48, 12, 5, 1), (52, 12, 6, 1), (87, 12, 7, 1), (68, 12, 8, 1), (83, 12, 9, 1), (102, 2, 0, 0), (111, 2, 2, 0), (117, 2, 3, 0), (120, 2, 5, 0), (114, 2, 8, 0), (150, 2, 9, 0), (156, 4, 1, 0), (165, 4, 2, 0)], [(3, 9999), (15, 81), (24, 118), (33, 48), (40, 0), (47, 34), (56, 140), (60, 141), (174, 82), (64, 119), (77, 1), (80, 49), (176, 143), (94, 4), (183, 252), (98, 2), (107, 29), (123, 35), (126, 44), (133, 45), (153, 33), (162, 269), (171, 3), (136, 36), (146, 37)], [(13, 7), (22, 12), (31, 6), (38, 2), (45, 4), (72, 200), (139, 202)], [], [(179, 9007199254740991), (181, -9007199254740991)], [(141, 0)], [])
theorem pl11_f : ∀ e ∈ pl11.1, FOK "PathHouse" e := fa_c (⟨by decide, _, cl6, by decide, Or.inr ⟨"PathHouse", nw (tw1 (i := 58) rfl) rfl⟩, fun h => absurd h (by decide)⟩) (fa_c (⟨by decide, _, cl6, by decide, Or.inr ⟨"PathHouse", nw (tw1 (i := 60) rfl) rfl⟩, fun h => absurd h (by decide)⟩) (fa_c (⟨by decide, _, cl1, by decide, Or.inr ⟨"PathHouse", nw (tw1 (i := 125) rfl) rfl⟩, fun h => absurd h (by decide)⟩) (fa_c (⟨by decide, _, cl3, by decide, Or.inr ⟨"PathHouse", nw (tw1 (i := 146) rfl) rfl⟩, fun h => absurd h (by decide)⟩) (fa_c (⟨by decide, _, cl12, by decide, Or.inl (gw (tw1 (i := 152) rfl) rfl), fun h => ⟨rfl, gw (tw1 (i := 152) rfl) rfl⟩⟩) (fa_c (⟨by decide, _, cl12, by decide, Or.inl (gw (tw1 (i := 153) rfl) rfl), fun h => ⟨rfl, gw (tw1 (i := 153) rfl) rfl⟩⟩) (fa_c (⟨by decide, _, cl12, by decide, Or.inl (gw (tw1 (i := 154) rfl) rfl), fun h => ⟨rfl, gw (tw1 (i := 154) rfl) rfl⟩⟩) (fa_c (⟨by decide, _, cl12, by decide, Or.inl (gw (tw1 (i := 155) rfl) rfl), fun h => ⟨rfl, gw (tw1 (i := 155) rfl) rfl⟩⟩) (fa_c (⟨by decide, _, cl12, by decide, Or.inl (gw (tw1 (i := 156) rfl) rfl), fun h => ⟨rfl, gw (tw1 (i := 156) rfl) rfl⟩⟩) (fa_c (⟨by decide, _, cl12, by decide, Or.inl (gw (tw1 (i := 157) rfl) rfl), fun h => ⟨rfl, gw (tw1 (i := 157) rfl) rfl⟩⟩) (fa_c (⟨by decide, _, cl12, by decide, Or.inl (gw (tw1 (i := 158) rfl) rfl), fun h => ⟨rfl, gw (tw1 (i := 158) rfl) rfl⟩⟩) (fa_c (⟨by decide, _, cl12, by decide, Or.inl (gw (tw1 (i := 159) rfl) rfl), fun h => ⟨rfl, gw (tw1 (i := 159) rfl) rfl⟩⟩) (fa_c (⟨by decide, _, cl12, by decide, Or.inl (gw (tw1 (i := 160) rfl) rfl), fun h => ⟨rfl, gw (tw1 (i := 160) rfl) rfl⟩⟩) (fa_c (⟨by decide, _, cl12, by decide, Or.inl (gw (tw1 (i := 161) rfl) rfl), fun h => ⟨rfl, gw (tw1 (i := 161) rfl) rfl⟩⟩) (fa_c (⟨by decide, _, cl2, by decide, Or.inr ⟨"PathHouse", nw (tw2 (i := 100) rfl) rfl⟩, fun h => absurd h (by decide)⟩) (fa_c (⟨by decide, _, cl2, by decide, Or.inr ⟨"PathHouse", nw (tw2 (i := 106) rfl) rfl⟩, fun h => absurd h (by decide)⟩) (fa_c (⟨by decide, _, cl2, by decide, Or.inr ⟨"PathHouse", nw (tw2 (i := 109) rfl) rfl⟩, fun h => absurd h (by decide)⟩) (fa_c (⟨by decide, _, cl2, by decide, Or.inr ⟨"PathHouse", nw (tw2 (i := 113) rfl) rfl⟩, fun h => absurd h (by decide)⟩) (fa_c (⟨by decide, _, cl2, by decide, Or.inr ⟨"PathHouse", nw (tw2 (i := 126) rfl) rfl⟩, fun h => absurd h (by decide)⟩) (fa_c (⟨by decide, _, cl2, by decide, Or.inr ⟨"PathHouse", nw (tw2 (i := 131) rfl) rfl⟩, fun h => absurd h (by decide)⟩) (fa_c (⟨by decide, _, cl4, by decide, Or.inr ⟨"PathHouse", nw (tw3 (i := 198) rfl) rfl⟩, fun h => absurd h (by decide)⟩) (fa_c (⟨by decide, _, cl4, by decide, Or.inr ⟨"PathHouse", nw (tw3 (i := 202) rfl) rfl⟩, fun h => absurd h (by decide)⟩) fa_0)))))))))))))))))))))
theorem pl11_m : ∀ e ∈ pl11.2.1, MOK "PathHouse" e := fa_c (Or.inl ⟨rfl, mt_no, gw (tw1 (i := 40) rfl) rfl, gw (tw1 (i := 41) rfl) rfl, gw (tw1 (i := 42) rfl) rfl⟩) (fa_c (Or.inr ⟨(show (81 : Nat) ≠ 9999 by decide), mE81, 1, 2000, 0, rfl, rfl, mK81.1, mK81.2, Or.inr ⟨"PathHouse", nw (tw1 (i := 45) rfl) rfl⟩⟩) (fa_c (Or.inr ⟨(show (118 : Nat) ≠ 9999 by decide), mE118, 1, 2000, 0, rfl, rfl, mK118.1, mK118.2, Or.inr ⟨"PathHouse", nw (tw1 (i := 80) rfl) rfl⟩⟩) (fa_c (Or.inr ⟨(show (48 : Nat) ≠ 9999 by decide), mE48, 1, 2000, 0, rfl, rfl, mK48.1, mK48.2, Or.inr ⟨"PathHouse", nw (tw1 (i := 96) rfl) rfl⟩⟩) (fa_c (Or.inr ⟨(show (0 : Nat) ≠ 9999 by decide), mE0, 0, 2000, 0, rfl, rfl, mK0.1, mK0.2, Or.inr ⟨"PathHouse", nw (tw1 (i := 115) rfl) rfl⟩⟩) (fa_c (Or.inr ⟨(show (34 : Nat) ≠ 9999 by decide), mE34, 0, 2000, 0, rfl, rfl, mK34.1, mK34.2, Or.inr ⟨"PathHouse", nw (tw1 (i := 140) rfl) rfl⟩⟩) (fa_c (Or.inr ⟨(show (140 : Nat) ≠ 9999 by decide), mE140, 1, 12, 0, rfl, rfl, mK140.1, mK140.2, Or.inl (gw (tw1 (i := 187) rfl) rfl)⟩) (fa_c (Or.inr ⟨(show (141 : Nat) ≠ 9999 by decide), mE141, 1, 12, 1, rfl, rfl, mK141.1, mK141.2, Or.inl (gw (tw1 (i := 196) rfl) rfl)⟩) (fa_c (Or.inr ⟨(show (82 : Nat) ≠ 9999 by decide), mE82, 1, 6, 0, rfl, rfl, mK82.1, mK82.2, Or.inr ⟨"PathHouse", nw (tw1 (i := 200) rfl) rfl⟩⟩) (fa_c (Or.inr ⟨(show (119 : Nat) ≠ 9999 by decide), mE119, 0, 11, 3, rfl, rfl, mK119.1, mK119.2, Or.inr ⟨"PathHouse", nw (tw1 (i := 207) rfl) rfl⟩⟩) (fa_c (Or.inr ⟨(show (1 : Nat) ≠ 9999 by decide), mE1, 0, 1, 0, rfl, rfl, mK1.1, mK1.2, Or.inr ⟨"PathHouse", nw (tw3 (i := 171) rfl) rfl⟩⟩) (fa_c (Or.inr ⟨(show (49 : Nat) ≠ 9999 by decide), mE49, 0, 5, 3, rfl, rfl, mK49.1, mK49.2, Or.inr ⟨"PathHouse", nw (tw3 (i := 179) rfl) rfl⟩⟩) (fa_c (Or.inr ⟨(show (143 : Nat) ≠ 9999 by decide), mE143, 1, 1000, 1, rfl, rfl, mK143.1, mK143.2, Or.inl (gw (tw5 (i := 25) rfl) rfl)⟩) (fa_c (Or.inr ⟨(show (4 : Nat) ≠ 9999 by decide), mE4, 2, 1, 1, rfl, rfl, mK4.1, mK4.2, Or.inr ⟨"PathHouse", nw (tw5 (i := 34) rfl) rfl⟩⟩) (fa_c (Or.inr ⟨(show (252 : Nat) ≠ 9999 by decide), mE252, 2, 1000, 1, rfl, rfl, mK252.1, mK252.2, Or.inl (gw (tw5 (i := 192) rfl) rfl)⟩) (fa_c (Or.inr ⟨(show (2 : Nat) ≠ 9999 by decide), mE2, 1, 1, 3, rfl, rfl, mK2.1, mK2.2, Or.inr ⟨"PathHouse", nw (tw5 (i := 201) rfl) rfl⟩⟩) (fa_c (Or.inr ⟨(show (29 : Nat) ≠ 9999 by decide), mE29, 0, 2, 1, rfl, rfl, mK29.1, mK29.2, Or.inr ⟨"PathHouse", nw (tw5 (i := 205) rfl) rfl⟩⟩) (fa_c (Or.inr ⟨(show (35 : Nat) ≠ 9999 by decide), mE35, 0, 3, 0, rfl, rfl, mK35.1, mK35.2, Or.inr ⟨"PathHouse", nw (tw5 (i := 214) rfl) rfl⟩⟩) (fa_c (Or.inr ⟨(show (44 : Nat) ≠ 9999 by decide), mE44, 2, 3, 0, rfl, rfl, mK44.1, mK44.2, Or.inr ⟨"PathHouse", nw (tw5 (i := 218) rfl) rfl⟩⟩) (fa_c (Or.inr ⟨(show (45 : Nat) ≠ 9999 by decide), mE45, 2, 3, 0, rfl, rfl, mK45.1, mK45.2, Or.inr ⟨"PathHouse", nw (tw6 (i := 20) rfl) rfl⟩⟩) (fa_c (Or.inr ⟨(show (33 : Nat) ≠ 9999 by decide), mE33, 0, 2, 1, rfl, rfl, mK33.1, mK33.2, Or.inr ⟨"PathHouse", nw (tw6 (i := 38) rfl) rfl⟩⟩) (fa_c (Or.inr ⟨(show (269 : Nat) ≠ 9999 by decide), mE269, 0, 0, 1, rfl, rfl, mK269.1, mK269.2, Or.inl (gw (tw6 (i := 43) rfl) rfl)⟩) (fa_c (Or.inr ⟨(show (3 : Nat) ≠ 9999 by decide), mE3, 0, 1, 1, rfl, rfl, mK3.1, mK3.2, Or.inr ⟨"PathHouse", nw (tw6 (i := 44) rfl) rfl⟩⟩) (fa_c (Or.inr ⟨(show (36 : Nat) ≠ 9999 by decide), mE36, 1, 3, 1, rfl, rfl, mK36.1, mK36.2, Or.inr ⟨"PathHouse", nw (tw6 (i := 53) rfl) rfl⟩⟩) (fa_c (Or.inr ⟨(show (37 : Nat) ≠ 9999 by decide), mE37, 1, 3, 1, rfl, rfl, mK37.1, mK37.2, Or.inr ⟨"PathHouse", nw (tw6 (i := 73) rfl) rfl⟩⟩) fa_0))))))))))))))))))))))))
theorem pl11_k : ∀ e ∈ pl11.2.2.1, KOK "PathHouse" e := fa_c (⟨fun _ => ⟨by decide, _, cl6, gw (tw1 (i := 43) rfl) rfl, gw (tw1 (i := 44) rfl) rfl, gw (tw1 (i := 2) rfl) rfl⟩, fun h => absurd h (by decide)⟩) (fa_c (⟨fun _ => ⟨by decide, _, cl11, gw (tw1 (i := 78) rfl) rfl, gw (tw1 (i := 79) rfl) rfl, gw (tw1 (i := 3) rfl) rfl⟩, fun h => absurd h (by decide)⟩) (fa_c (⟨fun _ => ⟨by decide, _, cl5, gw (tw1 (i := 94) rfl) rfl, gw (tw1 (i := 95) rfl) rfl, gw (tw1 (i := 4) rfl) rfl⟩, fun h => absurd h (by decide)⟩) (fa_c (⟨fun _ => ⟨by decide, _, cl1, gw (tw1 (i := 113) rfl) rfl, gw (tw1 (i := 114) rfl) rfl, gw (tw1 (i := 5) rfl) rfl⟩, fun h => absurd h (by decide)⟩) (fa_c (⟨fun _ => ⟨by decide, _, cl3, gw (tw1 (i := 138) rfl) rfl, gw (tw1 (i := 139) rfl) rfl, gw (tw1 (i := 6) rfl) rfl⟩, fun h => absurd h (by decide)⟩) (fa_c (⟨fun h => absurd h (by decide), fun h => absurd h (by decide)⟩) (fa_c (⟨fun h => absurd h (by decide), fun h => absurd h (by decide)⟩) fa_0))))))
theorem pl11_i : ∀ e ∈ pl11.2.2.2.1, Cond.constant "PathHouse" e.1 e.2 ∈ gW := fa_0
theorem pl11_j : ∀ e ∈ pl11.2.2.2.2.1, Cond.constantLong "PathHouse" e.1 e.2 ∈ gW := fa_c (gw (tw2 (i := 239) rfl) rfl) (fa_c (gw (tw3 (i := 0) rfl) rfl) fa_0)
theorem pl11_s : ∀ e ∈ pl11.2.2.2.2.2.1, ∃ tx, ("PathHouse", e.1, tx, e.2) ∈ strL := fa_c (⟨"OUT has no such byte", by decide +kernel⟩) fa_0
theorem pl11_g : ∀ e ∈ pl11.2.2.2.2.2.2, ∃ c n dsc, (c, n, dsc, e.2) ∈ stL ∧ Cond.fieldLink "PathHouse" e.1 c n dsc ∈ gW := fa_0
theorem pl11_ok : PoolOK "PathHouse" pl11 mtab mt := pool_of pl11_f pl11_m pl11_k pl11_i pl11_j pl11_s pl11_g
def pl12 : Pool := ([(9, 13, 0, 1), (15, 13, 1, 1), (18, 13, 2, 1), (21, 13, 3, 1), (24, 13, 4, 1), (27, 13, 5, 1), (31, 13, 6, 1), (34, 13, 7, 1)], [(3, 9999)], [], [], [], [], [])
theorem pl12_f : ∀ e ∈ pl12.1, FOK "PathHouseModel$Parts" e := fa_c (⟨by decide, _, cl13, by decide, Or.inl (gw (tw6 (i := 181) rfl) rfl), fun h => ⟨rfl, gw (tw6 (i := 181) rfl) rfl⟩⟩) (fa_c (⟨by decide, _, cl13, by decide, Or.inl (gw (tw6 (i := 183) rfl) rfl), fun h => ⟨rfl, gw (tw6 (i := 183) rfl) rfl⟩⟩) (fa_c (⟨by decide, _, cl13, by decide, Or.inl (gw (tw6 (i := 185) rfl) rfl), fun h => ⟨rfl, gw (tw6 (i := 185) rfl) rfl⟩⟩) (fa_c (⟨by decide, _, cl13, by decide, Or.inl (gw (tw6 (i := 187) rfl) rfl), fun h => ⟨rfl, gw (tw6 (i := 187) rfl) rfl⟩⟩) (fa_c (⟨by decide, _, cl13, by decide, Or.inl (gw (tw6 (i := 189) rfl) rfl), fun h => ⟨rfl, gw (tw6 (i := 189) rfl) rfl⟩⟩) (fa_c (⟨by decide, _, cl13, by decide, Or.inl (gw (tw6 (i := 191) rfl) rfl), fun h => ⟨rfl, gw (tw6 (i := 191) rfl) rfl⟩⟩) (fa_c (⟨by decide, _, cl13, by decide, Or.inl (gw (tw6 (i := 193) rfl) rfl), fun h => ⟨rfl, gw (tw6 (i := 193) rfl) rfl⟩⟩) (fa_c (⟨by decide, _, cl13, by decide, Or.inl (gw (tw6 (i := 195) rfl) rfl), fun h => ⟨rfl, gw (tw6 (i := 195) rfl) rfl⟩⟩) fa_0)))))))
theorem pl12_m : ∀ e ∈ pl12.2.1, MOK "PathHouseModel$Parts" e := fa_c (Or.inl ⟨rfl, mt_no, gw (tw6 (i := 180) rfl) rfl, gw (tw1 (i := 41) rfl) rfl, gw (tw1 (i := 42) rfl) rfl⟩) fa_0
theorem pl12_k : ∀ e ∈ pl12.2.2.1, KOK "PathHouseModel$Parts" e := fa_0
theorem pl12_i : ∀ e ∈ pl12.2.2.2.1, Cond.constant "PathHouseModel$Parts" e.1 e.2 ∈ gW := fa_0
theorem pl12_j : ∀ e ∈ pl12.2.2.2.2.1, Cond.constantLong "PathHouseModel$Parts" e.1 e.2 ∈ gW := fa_0
theorem pl12_s : ∀ e ∈ pl12.2.2.2.2.2.1, ∃ tx, ("PathHouseModel$Parts", e.1, tx, e.2) ∈ strL := fa_0
theorem pl12_g : ∀ e ∈ pl12.2.2.2.2.2.2, ∃ c n dsc, (c, n, dsc, e.2) ∈ stL ∧ Cond.fieldLink "PathHouseModel$Parts" e.1 c n dsc ∈ gW := fa_0
theorem pl12_ok : PoolOK "PathHouseModel$Parts" pl12 mtab mt := pool_of pl12_f pl12_m pl12_k pl12_i pl12_j pl12_s pl12_g
def pl13 : Pool := ([(9, 14, 0, 1), (15, 14, 1, 1), (18, 14, 2, 1), (21, 14, 3, 1), (24, 14, 4, 1), (27, 14, 5, 1), (30, 14, 6, 1), (33, 14, 7, 1), (36, 14, 8, 1), (39, 14, 9, 1), (42, 14, 10, 1), (45, 14, 11, 1)], [(3, 9999)], [], [], [], [], [])
theorem pl13_f : ∀ e ∈ pl13.1, FOK "PathHouseModel$Rows" e := fa_c (⟨by decide, _, cl14, by decide, Or.inl (gw (tw6 (i := 119) rfl) rfl), fun h => ⟨rfl, gw (tw6 (i := 119) rfl) rfl⟩⟩) (fa_c (⟨by decide, _, cl14, by decide, Or.inl (gw (tw6 (i := 121) rfl) rfl), fun h => ⟨rfl, gw (tw6 (i := 121) rfl) rfl⟩⟩) (fa_c (⟨by decide, _, cl14, by decide, Or.inl (gw (tw6 (i := 123) rfl) rfl), fun h => ⟨rfl, gw (tw6 (i := 123) rfl) rfl⟩⟩) (fa_c (⟨by decide, _, cl14, by decide, Or.inl (gw (tw6 (i := 125) rfl) rfl), fun h => ⟨rfl, gw (tw6 (i := 125) rfl) rfl⟩⟩) (fa_c (⟨by decide, _, cl14, by decide, Or.inl (gw (tw6 (i := 127) rfl) rfl), fun h => ⟨rfl, gw (tw6 (i := 127) rfl) rfl⟩⟩) (fa_c (⟨by decide, _, cl14, by decide, Or.inl (gw (tw6 (i := 129) rfl) rfl), fun h => ⟨rfl, gw (tw6 (i := 129) rfl) rfl⟩⟩) (fa_c (⟨by decide, _, cl14, by decide, Or.inl (gw (tw6 (i := 131) rfl) rfl), fun h => ⟨rfl, gw (tw6 (i := 131) rfl) rfl⟩⟩) (fa_c (⟨by decide, _, cl14, by decide, Or.inl (gw (tw6 (i := 133) rfl) rfl), fun h => ⟨rfl, gw (tw6 (i := 133) rfl) rfl⟩⟩) (fa_c (⟨by decide, _, cl14, by decide, Or.inl (gw (tw6 (i := 135) rfl) rfl), fun h => ⟨rfl, gw (tw6 (i := 135) rfl) rfl⟩⟩) (fa_c (⟨by decide, _, cl14, by decide, Or.inl (gw (tw6 (i := 137) rfl) rfl), fun h => ⟨rfl, gw (tw6 (i := 137) rfl) rfl⟩⟩) (fa_c (⟨by decide, _, cl14, by decide, Or.inl (gw (tw6 (i := 139) rfl) rfl), fun h => ⟨rfl, gw (tw6 (i := 139) rfl) rfl⟩⟩) (fa_c (⟨by decide, _, cl14, by decide, Or.inl (gw (tw6 (i := 141) rfl) rfl), fun h => ⟨rfl, gw (tw6 (i := 141) rfl) rfl⟩⟩) fa_0)))))))))))
theorem pl13_m : ∀ e ∈ pl13.2.1, MOK "PathHouseModel$Rows" e := fa_c (Or.inl ⟨rfl, mt_no, gw (tw6 (i := 118) rfl) rfl, gw (tw1 (i := 41) rfl) rfl, gw (tw1 (i := 42) rfl) rfl⟩) fa_0
theorem pl13_k : ∀ e ∈ pl13.2.2.1, KOK "PathHouseModel$Rows" e := fa_0
theorem pl13_i : ∀ e ∈ pl13.2.2.2.1, Cond.constant "PathHouseModel$Rows" e.1 e.2 ∈ gW := fa_0
theorem pl13_j : ∀ e ∈ pl13.2.2.2.2.1, Cond.constantLong "PathHouseModel$Rows" e.1 e.2 ∈ gW := fa_0
theorem pl13_s : ∀ e ∈ pl13.2.2.2.2.2.1, ∃ tx, ("PathHouseModel$Rows", e.1, tx, e.2) ∈ strL := fa_0
theorem pl13_g : ∀ e ∈ pl13.2.2.2.2.2.2, ∃ c n dsc, (c, n, dsc, e.2) ∈ stL ∧ Cond.fieldLink "PathHouseModel$Rows" e.1 c n dsc ∈ gW := fa_0
theorem pl13_ok : PoolOK "PathHouseModel$Rows" pl13 mtab mt := pool_of pl13_f pl13_m pl13_k pl13_i pl13_j pl13_s pl13_g
def pl14 : Pool := ([], [(1, 282)], [], [], [], [], [])
theorem pl14_f : ∀ e ∈ pl14.1, FOK "PathHouseModel$Stop" e := fa_0
theorem pl14_m : ∀ e ∈ pl14.2.1, MOK "PathHouseModel$Stop" e := fa_c (Or.inr ⟨(show (282 : Nat) ≠ 9999 by decide), mE282, 4, 2000, 0, rfl, rfl, mK282.1, mK282.2, Or.inl (gw (tw6 (i := 96) rfl) rfl)⟩) fa_0
theorem pl14_k : ∀ e ∈ pl14.2.2.1, KOK "PathHouseModel$Stop" e := fa_0
theorem pl14_i : ∀ e ∈ pl14.2.2.2.1, Cond.constant "PathHouseModel$Stop" e.1 e.2 ∈ gW := fa_0
theorem pl14_j : ∀ e ∈ pl14.2.2.2.2.1, Cond.constantLong "PathHouseModel$Stop" e.1 e.2 ∈ gW := fa_0
theorem pl14_s : ∀ e ∈ pl14.2.2.2.2.2.1, ∃ tx, ("PathHouseModel$Stop", e.1, tx, e.2) ∈ strL := fa_0
theorem pl14_g : ∀ e ∈ pl14.2.2.2.2.2.2, ∃ c n dsc, (c, n, dsc, e.2) ∈ stL ∧ Cond.fieldLink "PathHouseModel$Stop" e.1 c n dsc ∈ gW := fa_0
theorem pl14_ok : PoolOK "PathHouseModel$Stop" pl14 mtab mt := pool_of pl14_f pl14_m pl14_k pl14_i pl14_j pl14_s pl14_g
def pl15 : Pool := ([(67, 15, 6, 0), (70, 15, 7, 0), (210, 14, 0, 0), (172, 14, 1, 0), (175, 14, 2, 0), (178, 14, 3, 0), (181, 14, 4, 0), (184, 14, 5, 0), (187, 14, 6, 0), (189, 14, 7, 0), (195, 14, 8, 0), (198, 14, 9, 0), (201, 14, 10, 0), (192, 14, 11, 0), (161, 14, 12, 0), (164, 14, 13, 0), (253, 13, 0, 0), (254, 13, 1, 0), (257, 13, 2, 0), (260, 13, 3, 0), (261, 13, 4, 0), (298, 13, 5, 0), (286, 13, 6, 0), (293, 13, 7, 0), (252, 13, 8, 0), (397, 13, 9, 0), (320, 13, 10, 0), (399, 13, 11, 0), (64, 16, 0, 1), (12, 16, 1, 1), (16, 16, 2, 1), (73, 16, 3, 1), (76, 16, 4, 1), (79, 16, 5, 1), (20, 16, 6, 1), (105, 16, 7, 1), (146, 16, 8, 1), (136, 16, 9, 1), (27, 16, 10, 1), (31, 16, 11, 1), (246, 16, 12, 1), (402, 16, 13, 1), (34, 16, 14, 1), (38, 16, 15, 1), (44, 16, 16, 1), (48, 16, 17, 1), (270, 16, 18, 1), (267, 16, 19, 1), (264, 16, 20, 1), (304, 16, 21, 1), (387, 16, 22, 1), (405, 16, 23, 1), (249, 16, 24, 1), (51, 16, 25, 1), (55, 16, 26, 1), (412, 16, 27, 1), (409, 16, 28, 1), (460, 16, 29, 1), (463, 16, 30, 1), (465, 16, 31, 1), (467, 16, 32, 1), (461, 16, 33, 1), (58, 16, 34, 1), (501, 16, 35, 1), (61, 16, 36, 1)], [(3, 9999), (11, 150), (26, 149), (43, 148), (230, 160), (93, 157), (86, 156), (82, 155), (233, 174), (158, 172), (108, 161), (97, 158), (90, 153), (167, 250), (206, 173), (150, 254), (154, 255), (119, 159), (216, 169), (127, 168), (124, 167), (114, 166), (111, 165), (130, 164), (133, 163), (219, 176), (236, 175), (223, 177), (239, 170), (226, 171), (243, 178), (329, 192), (279, 181), (323, 190), (313, 189), (296, 187), (282, 186), (289, 185), (276, 182), (301, 188), (307, 183), (310, 210), (384, 209), (381, 206), (369, 205), (339, 194), (342, 193), (366, 203), (273, 162), (372, 207), (332, 212), (335, 197), (394, 211), (375, 208), (345, 196), (348, 195), (351, 198), (360, 199), (363, 202), (354, 200), (357, 201), (378, 204), (326, 191), (317, 184), (457, 216), (415, 217), (422, 214), (419, 218), (425, 219), (429, 215), (432, 220), (435, 222), (443, 221), (438, 223), (447, 224), (451, 225), (454, 229), (477, 228), (470, 227), (474, 226), (480, 231), (488, 232), (492, 233), (484, 230), (495, 235), (498, 236), (504, 239), (512, 241), (515, 243), (509, 242), (521, 245), (518, 240)], [(9, 16), (24, 15), (41, 14)], [(54, 36000), (102, 55296), (118, 56319), (101, 65536), (123, 56320), (103, 57344), (104, 1114111), (408, 60000)], [(140, 10), (142, 48), (144, 9007199254740991), (441, -1), (507, 9)], [(204, 4), (212, 2), (214, 7), (390, 3), (391, 1), (393, 9)], [])
theorem pl15_f : ∀ e ∈ pl15.1, FOK "PathHouseModel" e := fa_c (⟨by decide, _, cl15, by decide, Or.inr ⟨"PathHouseModel", nw (tw6 (i := 105) rfl) rfl⟩, fun h => absurd h (by decide)⟩) (fa_c (⟨by decide, _, cl15, by decide, Or.inr ⟨"PathHouseModel", nw (tw6 (i := 106) rfl) rfl⟩, fun h => absurd h (by decide)⟩) (fa_c (⟨by decide, _, cl14, by decide, Or.inr ⟨"PathHouseModel", nw (tw6 (i := 120) rfl) rfl⟩, fun h => absurd h (by decide)⟩) (fa_c (⟨by decide, _, cl14, by decide, Or.inr ⟨"PathHouseModel", nw (tw6 (i := 122) rfl) rfl⟩, fun h => absurd h (by decide)⟩) (fa_c (⟨by decide, _, cl14, by decide, Or.inr ⟨"PathHouseModel", nw (tw6 (i := 124) rfl) rfl⟩, fun h => absurd h (by decide)⟩) (fa_c (⟨by decide, _, cl14, by decide, Or.inr ⟨"PathHouseModel", nw (tw6 (i := 126) rfl) rfl⟩, fun h => absurd h (by decide)⟩) (fa_c (⟨by decide, _, cl14, by decide, Or.inr ⟨"PathHouseModel", nw (tw6 (i := 128) rfl) rfl⟩, fun h => absurd h (by decide)⟩) (fa_c (⟨by decide, _, cl14, by decide, Or.inr ⟨"PathHouseModel", nw (tw6 (i := 130) rfl) rfl⟩, fun h => absurd h (by decide)⟩) (fa_c (⟨by decide, _, cl14, by decide, Or.inr ⟨"PathHouseModel", nw (tw6 (i := 132) rfl) rfl⟩, fun h => absurd h (by decide)⟩) (fa_c (⟨by decide, _, cl14, by decide, Or.inr ⟨"PathHouseModel", nw (tw6 (i := 134) rfl) rfl⟩, fun h => absurd h (by decide)⟩) (fa_c (⟨by decide, _, cl14, by decide, Or.inr ⟨"PathHouseModel", nw (tw6 (i := 136) rfl) rfl⟩, fun h => absurd h (by decide)⟩) (fa_c (⟨by decide, _, cl14, by decide, Or.inr ⟨"PathHouseModel", nw (tw6 (i := 138) rfl) rfl⟩, fun h => absurd h (by decide)⟩) (fa_c (⟨by decide, _, cl14, by decide, Or.inr ⟨"PathHouseModel", nw (tw6 (i := 140) rfl) rfl⟩, fun h => absurd h (by decide)⟩) (fa_c (⟨by decide, _, cl14, by decide, Or.inr ⟨"PathHouseModel", nw (tw6 (i := 142) rfl) rfl⟩, fun h => absurd h (by decide)⟩) (fa_c (⟨by decide, _, cl14, by decide, Or.inr ⟨"PathHouseModel", nw (tw6 (i := 143) rfl) rfl⟩, fun h => absurd h (by decide)⟩) (fa_c (⟨by decide, _, cl14, by decide, Or.inr ⟨"PathHouseModel", nw (tw6 (i := 144) rfl) rfl⟩, fun h => absurd h (by decide)⟩) (fa_c (⟨by decide, _, cl13, by decide, Or.inr ⟨"PathHouseModel", nw (tw6 (i := 182) rfl) rfl⟩, fun h => absurd h (by decide)⟩) (fa_c (⟨by decide, _, cl13, by decide, Or.inr ⟨"PathHouseModel", nw (tw6 (i := 184) rfl) rfl⟩, fun h => absurd h (by decide)⟩) (fa_c (⟨by decide, _, cl13, by decide, Or.inr ⟨"PathHouseModel", nw (tw6 (i := 186) rfl) rfl⟩, fun h => absurd h (by decide)⟩) (fa_c (⟨by decide, _, cl13, by decide, Or.inr ⟨"PathHouseModel", nw (tw6 (i := 188) rfl) rfl⟩, fun h => absurd h (by decide)⟩) (fa_c (⟨by decide, _, cl13, by decide, Or.inr ⟨"PathHouseModel", nw (tw6 (i := 190) rfl) rfl⟩, fun h => absurd h (by decide)⟩) (fa_c (⟨by decide, _, cl13, by decide, Or.inr ⟨"PathHouseModel", nw (tw6 (i := 192) rfl) rfl⟩, fun h => absurd h (by decide)⟩) (fa_c (⟨by decide, _, cl13, by decide, Or.inr ⟨"PathHouseModel", nw (tw6 (i := 194) rfl) rfl⟩, fun h => absurd h (by decide)⟩) (fa_c (⟨by decide, _, cl13, by decide, Or.inr ⟨"PathHouseModel", nw (tw6 (i := 196) rfl) rfl⟩, fun h => absurd h (by decide)⟩) (fa_c (⟨by decide, _, cl13, by decide, Or.inr ⟨"PathHouseModel", nw (tw6 (i := 197) rfl) rfl⟩, fun h => absurd h (by decide)⟩) (fa_c (⟨by decide, _, cl13, by decide, Or.inr ⟨"PathHouseModel", nw (tw6 (i := 198) rfl) rfl⟩, fun h => absurd h (by decide)⟩) (fa_c (⟨by decide, _, cl13, by decide, Or.inr ⟨"PathHouseModel", nw (tw6 (i := 199) rfl) rfl⟩, fun h => absurd h (by decide)⟩) (fa_c (⟨by decide, _, cl13, by decide, Or.inr ⟨"PathHouseModel", nw (tw6 (i := 200) rfl) rfl⟩, fun h => absurd h (by decide)⟩) (fa_c (⟨by decide, _, cl16, by decide, Or.inl (gw (tw6 (i := 227) rfl) rfl), fun h => ⟨rfl, gw (tw6 (i := 227) rfl) rfl⟩⟩) (fa_c (⟨by decide, _, cl16, by decide, Or.inl (gw (tw6 (i := 228) rfl) rfl), fun h => ⟨rfl, gw (tw6 (i := 228) rfl) rfl⟩⟩) (fa_c (⟨by decide, _, cl16, by decide, Or.inl (gw (tw6 (i := 229) rfl) rfl), fun h => ⟨rfl, gw (tw6 (i := 229) rfl) rfl⟩⟩) (fa_c (⟨by decide, _, cl16, by decide, Or.inl (gw (tw6 (i := 230) rfl) rfl), fun h => ⟨rfl, gw (tw6 (i := 230) rfl) rfl⟩⟩) (fa_c (⟨by decide, _, cl16, by decide, Or.inl (gw (tw6 (i := 231) rfl) rfl), fun h => ⟨rfl, gw (tw6 (i := 231) rfl) rfl⟩⟩) (fa_c (⟨by decide, _, cl16, by decide, Or.inl (gw (tw6 (i := 232) rfl) rfl), fun h => ⟨rfl, gw (tw6 (i := 232) rfl) rfl⟩⟩) (fa_c (⟨by decide, _, cl16, by decide, Or.inl (gw (tw6 (i := 233) rfl) rfl), fun h => ⟨rfl, gw (tw6 (i := 233) rfl) rfl⟩⟩) (fa_c (⟨by decide, _, cl16, by decide, Or.inl (gw (tw6 (i := 234) rfl) rfl), fun h => ⟨rfl, gw (tw6 (i := 234) rfl) rfl⟩⟩) (fa_c (⟨by decide, _, cl16, by decide, Or.inl (gw (tw6 (i := 235) rfl) rfl), fun h => ⟨rfl, gw (tw6 (i := 235) rfl) rfl⟩⟩) (fa_c (⟨by decide, _, cl16, by decide, Or.inl (gw (tw6 (i := 236) rfl) rfl), fun h => ⟨rfl, gw (tw6 (i := 236) rfl) rfl⟩⟩) (fa_c (⟨by decide, _, cl16, by decide, Or.inl (gw (tw6 (i := 237) rfl) rfl), fun h => ⟨rfl, gw (tw6 (i := 237) rfl) rfl⟩⟩) (fa_c (⟨by decide, _, cl16, by decide, Or.inl (gw (tw6 (i := 238) rfl) rfl), fun h => ⟨rfl, gw (tw6 (i := 238) rfl) rfl⟩⟩) (fa_c (⟨by decide, _, cl16, by decide, Or.inl (gw (tw6 (i := 239) rfl) rfl), fun h => ⟨rfl, gw (tw6 (i := 239) rfl) rfl⟩⟩) (fa_c (⟨by decide, _, cl16, by decide, Or.inl (gw (tw7 (i := 0) rfl) rfl), fun h => ⟨rfl, gw (tw7 (i := 0) rfl) rfl⟩⟩) (fa_c (⟨by decide, _, cl16, by decide, Or.inl (gw (tw7 (i := 1) rfl) rfl), fun h => ⟨rfl, gw (tw7 (i := 1) rfl) rfl⟩⟩) (fa_c (⟨by decide, _, cl16, by decide, Or.inl (gw (tw7 (i := 2) rfl) rfl), fun h => ⟨rfl, gw (tw7 (i := 2) rfl) rfl⟩⟩) (fa_c (⟨by decide, _, cl16, by decide, Or.inl (gw (tw7 (i := 3) rfl) rfl), fun h => ⟨rfl, gw (tw7 (i := 3) rfl) rfl⟩⟩) (fa_c (⟨by decide, _, cl16, by decide, Or.inl (gw (tw7 (i := 4) rfl) rfl), fun h => ⟨rfl, gw (tw7 (i := 4) rfl) rfl⟩⟩) (fa_c (⟨by decide, _, cl16, by decide, Or.inl (gw (tw7 (i := 5) rfl) rfl), fun h => ⟨rfl, gw (tw7 (i := 5) rfl) rfl⟩⟩) (fa_c (⟨by decide, _, cl16, by decide, Or.inl (gw (tw7 (i := 6) rfl) rfl), fun h => ⟨rfl, gw (tw7 (i := 6) rfl) rfl⟩⟩) (fa_c (⟨by decide, _, cl16, by decide, Or.inl (gw (tw7 (i := 7) rfl) rfl), fun h => ⟨rfl, gw (tw7 (i := 7) rfl) rfl⟩⟩) (fa_c (⟨by decide, _, cl16, by decide, Or.inl (gw (tw7 (i := 8) rfl) rfl), fun h => ⟨rfl, gw (tw7 (i := 8) rfl) rfl⟩⟩) (fa_c (⟨by decide, _, cl16, by decide, Or.inl (gw (tw7 (i := 9) rfl) rfl), fun h => ⟨rfl, gw (tw7 (i := 9) rfl) rfl⟩⟩) (fa_c (⟨by decide, _, cl16, by decide, Or.inl (gw (tw7 (i := 10) rfl) rfl), fun h => ⟨rfl, gw (tw7 (i := 10) rfl) rfl⟩⟩) (fa_c (⟨by decide, _, cl16, by decide, Or.inl (gw (tw7 (i := 11) rfl) rfl), fun h => ⟨rfl, gw (tw7 (i := 11) rfl) rfl⟩⟩) (fa_c (⟨by decide, _, cl16, by decide, Or.inl (gw (tw7 (i := 12) rfl) rfl), fun h => ⟨rfl, gw (tw7 (i := 12) rfl) rfl⟩⟩) (fa_c (⟨by decide, _, cl16, by decide, Or.inl (gw (tw7 (i := 13) rfl) rfl), fun h => ⟨rfl, gw (tw7 (i := 13) rfl) rfl⟩⟩) (fa_c (⟨by decide, _, cl16, by decide, Or.inl (gw (tw7 (i := 14) rfl) rfl), fun h => ⟨rfl, gw (tw7 (i := 14) rfl) rfl⟩⟩) (fa_c (⟨by decide, _, cl16, by decide, Or.inl (gw (tw7 (i := 15) rfl) rfl), fun h => ⟨rfl, gw (tw7 (i := 15) rfl) rfl⟩⟩) (fa_c (⟨by decide, _, cl16, by decide, Or.inl (gw (tw7 (i := 16) rfl) rfl), fun h => ⟨rfl, gw (tw7 (i := 16) rfl) rfl⟩⟩) (fa_c (⟨by decide, _, cl16, by decide, Or.inl (gw (tw7 (i := 17) rfl) rfl), fun h => ⟨rfl, gw (tw7 (i := 17) rfl) rfl⟩⟩) (fa_c (⟨by decide, _, cl16, by decide, Or.inl (gw (tw7 (i := 18) rfl) rfl), fun h => ⟨rfl, gw (tw7 (i := 18) rfl) rfl⟩⟩) (fa_c (⟨by decide, _, cl16, by decide, Or.inl (gw (tw7 (i := 19) rfl) rfl), fun h => ⟨rfl, gw (tw7 (i := 19) rfl) rfl⟩⟩) (fa_c (⟨by decide, _, cl16, by decide, Or.inl (gw (tw7 (i := 20) rfl) rfl), fun h => ⟨rfl, gw (tw7 (i := 20) rfl) rfl⟩⟩) (fa_c (⟨by decide, _, cl16, by decide, Or.inl (gw (tw7 (i := 21) rfl) rfl), fun h => ⟨rfl, gw (tw7 (i := 21) rfl) rfl⟩⟩) (fa_c (⟨by decide, _, cl16, by decide, Or.inl (gw (tw7 (i := 22) rfl) rfl), fun h => ⟨rfl, gw (tw7 (i := 22) rfl) rfl⟩⟩) (fa_c (⟨by decide, _, cl16, by decide, Or.inl (gw (tw7 (i := 23) rfl) rfl), fun h => ⟨rfl, gw (tw7 (i := 23) rfl) rfl⟩⟩) fa_0))))))))))))))))))))))))))))))))))))))))))))))))))))))))))))))))
theorem pl15_m : ∀ e ∈ pl15.2.1, MOK "PathHouseModel" e := fa_c (Or.inl ⟨rfl, mt_no, gw (tw6 (i := 83) rfl) rfl, gw (tw1 (i := 41) rfl) rfl, gw (tw1 (i := 42) rfl) rfl⟩) (fa_c (Or.inr ⟨(show (150 : Nat) ≠ 9999 by decide), mE150, 0, 2000, 0, rfl, rfl, mK150.1, mK150.2, Or.inl (gw (tw6 (i := 93) rfl) rfl)⟩) (fa_c (Or.inr ⟨(show (149 : Nat) ≠ 9999 by decide), mE149, 0, 2000, 0, rfl, rfl, mK149.1, mK149.2, Or.inr ⟨"PathHouseModel", nw (tw6 (i := 115) rfl) rfl⟩⟩) (fa_c (Or.inr ⟨(show (148 : Nat) ≠ 9999 by decide), mE148, 0, 2000, 0, rfl, rfl, mK148.1, mK148.2, Or.inr ⟨"PathHouseModel", nw (tw6 (i := 177) rfl) rfl⟩⟩) (fa_c (Or.inr ⟨(show (160 : Nat) ≠ 9999 by decide), mE160, 0, 16, 0, rfl, rfl, mK160.1, mK160.2, Or.inl (gw (tw7 (i := 111) rfl) rfl)⟩) (fa_c (Or.inr ⟨(show (157 : Nat) ≠ 9999 by decide), mE157, 1, 16, 1, rfl, rfl, mK157.1, mK157.2, Or.inl (gw (tw7 (i := 115) rfl) rfl)⟩) (fa_c (Or.inr ⟨(show (156 : Nat) ≠ 9999 by decide), mE156, 0, 16, 1, rfl, rfl, mK156.1, mK156.2, Or.inl (gw (tw7 (i := 119) rfl) rfl)⟩) (fa_c (Or.inr ⟨(show (155 : Nat) ≠ 9999 by decide), mE155, 1, 16, 1, rfl, rfl, mK155.1, mK155.2, Or.inl (gw (tw7 (i := 123) rfl) rfl)⟩) (fa_c (Or.inr ⟨(show (174 : Nat) ≠ 9999 by decide), mE174, 2, 16, 1, rfl, rfl, mK174.1, mK174.2, Or.inl (gw (tw7 (i := 127) rfl) rfl)⟩) (fa_c (Or.inr ⟨(show (172 : Nat) ≠ 9999 by decide), mE172, 1, 1000, 1, rfl, rfl, mK172.1, mK172.2, Or.inl (gw (tw7 (i := 131) rfl) rfl)⟩) (fa_c (Or.inr ⟨(show (161 : Nat) ≠ 9999 by decide), mE161, 1, 1000, 1, rfl, rfl, mK161.1, mK161.2, Or.inl (gw (tw7 (i := 134) rfl) rfl)⟩) (fa_c (Or.inr ⟨(show (158 : Nat) ≠ 9999 by decide), mE158, 0, 16, 3, rfl, rfl, mK158.1, mK158.2, Or.inl (gw (tw7 (i := 137) rfl) rfl)⟩) (fa_c (Or.inr ⟨(show (153 : Nat) ≠ 9999 by decide), mE153, 2, 16, 3, rfl, rfl, mK153.1, mK153.2, Or.inl (gw (tw7 (i := 141) rfl) rfl)⟩) (fa_c (Or.inr ⟨(show (250 : Nat) ≠ 9999 by decide), mE250, 2, 1000, 1, rfl, rfl, mK250.1, mK250.2, Or.inl (gw (tw7 (i := 145) rfl) rfl)⟩) (fa_c (Or.inr ⟨(show (173 : Nat) ≠ 9999 by decide), mE173, 1, 16, 0, rfl, rfl, mK173.1, mK173.2, Or.inl (gw (tw7 (i := 147) rfl) rfl)⟩) (fa_c (Or.inr ⟨(show (254 : Nat) ≠ 9999 by decide), mE254, 0, 3000, 1, rfl, rfl, mK254.1, mK254.2, Or.inl (gw (tw7 (i := 151) rfl) rfl)⟩) (fa_c (Or.inr ⟨(show (255 : Nat) ≠ 9999 by decide), mE255, 1, 3000, 1, rfl, rfl, mK255.1, mK255.2, Or.inl (gw (tw7 (i := 152) rfl) rfl)⟩) (fa_c (Or.inr ⟨(show (159 : Nat) ≠ 9999 by decide), mE159, 1, 16, 0, rfl, rfl, mK159.1, mK159.2, Or.inl (gw (tw7 (i := 153) rfl) rfl)⟩) (fa_c (Or.inr ⟨(show (169 : Nat) ≠ 9999 by decide), mE169, 0, 16, 1, rfl, rfl, mK169.1, mK169.2, Or.inl (gw (tw7 (i := 159) rfl) rfl)⟩) (fa_c (Or.inr ⟨(show (168 : Nat) ≠ 9999 by decide), mE168, 1, 16, 1, rfl, rfl, mK168.1, mK168.2, Or.inl (gw (tw7 (i := 163) rfl) rfl)⟩) (fa_c (Or.inr ⟨(show (167 : Nat) ≠ 9999 by decide), mE167, 0, 16, 1, rfl, rfl, mK167.1, mK167.2, Or.inl (gw (tw7 (i := 167) rfl) rfl)⟩) (fa_c (Or.inr ⟨(show (166 : Nat) ≠ 9999 by decide), mE166, 2, 16, 1, rfl, rfl, mK166.1, mK166.2, Or.inl (gw (tw7 (i := 171) rfl) rfl)⟩) (fa_c (Or.inr ⟨(show (165 : Nat) ≠ 9999 by decide), mE165, 1, 1000, 1, rfl, rfl, mK165.1, mK165.2, Or.inl (gw (tw7 (i := 175) rfl) rfl)⟩) (fa_c (Or.inr ⟨(show (164 : Nat) ≠ 9999 by decide), mE164, 1, 16, 0, rfl, rfl, mK164.1, mK164.2, Or.inl (gw (tw7 (i := 182) rfl) rfl)⟩) (fa_c (Or.inr ⟨(show (163 : Nat) ≠ 9999 by decide), mE163, 0, 16, 1, rfl, rfl, mK163.1, mK163.2, Or.inl (gw (tw7 (i := 186) rfl) rfl)⟩) (fa_c (Or.inr ⟨(show (176 : Nat) ≠ 9999 by decide), mE176, 2, 16, 0, rfl, rfl, mK176.1, mK176.2, Or.inl (gw (tw7 (i := 192) rfl) rfl)⟩) (fa_c (Or.inr ⟨(show (175 : Nat) ≠ 9999 by decide), mE175, 2, 16, 0, rfl, rfl, mK175.1, mK175.2, Or.inl (gw (tw7 (i := 196) rfl) rfl)⟩) (fa_c (Or.inr ⟨(show (177 : Nat) ≠ 9999 by decide), mE177, 2, 16, 0, rfl, rfl, mK177.1, mK177.2, Or.inl (gw (tw7 (i := 200) rfl) rfl)⟩) (fa_c (Or.inr ⟨(show (170 : Nat) ≠ 9999 by decide), mE170, 4, 16, 1, rfl, rfl, mK170.1, mK170.2, Or.inl (gw (tw7 (i := 204) rfl) rfl)⟩) (fa_c (Or.inr ⟨(show (171 : Nat) ≠ 9999 by decide), mE171, 1, 16, 0, rfl, rfl, mK171.1, mK171.2, Or.inl (gw (tw7 (i := 208) rfl) rfl)⟩) (fa_c (Or.inr ⟨(show (178 : Nat) ≠ 9999 by decide), mE178, 2, 16, 1, rfl, rfl, mK178.1, mK178.2, Or.inl (gw (tw7 (i := 215) rfl) rfl)⟩) (fa_c (Or.inr ⟨(show (192 : Nat) ≠ 9999 by decide), mE192, 2, 16, 1, rfl, rfl, mK192.1, mK192.2, Or.inl (gw (tw7 (i := 227) rfl) rfl)⟩) (fa_c (Or.inr ⟨(show (181 : Nat) ≠ 9999 by decide), mE181, 1, 16, 1, rfl, rfl, mK181.1, mK181.2, Or.inl (gw (tw7 (i := 231) rfl) rfl)⟩) (fa_c (Or.inr ⟨(show (190 : Nat) ≠ 9999 by decide), mE190, 1, 16, 1, rfl, rfl, mK190.1, mK190.2, Or.inl (gw (tw7 (i := 235) rfl) rfl)⟩) (fa_c (Or.inr ⟨(show (189 : Nat) ≠ 9999 by decide), mE189, 1, 16, 1, rfl, rfl, mK189.1, mK189.2, Or.inl (gw (tw7 (i := 239) rfl) rfl)⟩) (fa_c (Or.inr ⟨(show (187 : Nat) ≠ 9999 by decide), mE187, 1, 16, 1, rfl, rfl, mK187.1, mK187.2, Or.inl (gw (tw8 (i := 3) rfl) rfl)⟩) (fa_c (Or.inr ⟨(show (186 : Nat) ≠ 9999 by decide), mE186, 0, 16, 1, rfl, rfl, mK186.1, mK186.2, Or.inl (gw (tw8 (i := 7) rfl) rfl)⟩) (fa_c (Or.inr ⟨(show (185 : Nat) ≠ 9999 by decide), mE185, 0, 16, 2, rfl, rfl, mK185.1, mK185.2, Or.inl (gw (tw8 (i := 11) rfl) rfl)⟩) (fa_c (Or.inr ⟨(show (182 : Nat) ≠ 9999 by decide), mE182, 2, 16, 0, rfl, rfl, mK182.1, mK182.2, Or.inl (gw (tw8 (i := 15) rfl) rfl)⟩) (fa_c (Or.inr ⟨(show (188 : Nat) ≠ 9999 by decide), mE188, 1, 16, 1, rfl, rfl, mK188.1, mK188.2, Or.inl (gw (tw8 (i := 19) rfl) rfl)⟩) (fa_c (Or.inr ⟨(show (183 : Nat) ≠ 9999 by decide), mE183, 0, 16, 0, rfl, rfl, mK183.1, mK183.2, Or.inl (gw (tw8 (i := 23) rfl) rfl)⟩) (fa_c (Or.inr ⟨(show (210 : Nat) ≠ 9999 by decide), mE210, 1, 16, 1, rfl, rfl, mK210.1, mK210.2, Or.inl (gw (tw8 (i := 27) rfl) rfl)⟩) (fa_c (Or.inr ⟨(show (209 : Nat) ≠ 9999 by decide), mE209, 1, 16, 1, rfl, rfl, mK209.1, mK209.2, Or.inl (gw (tw8 (i := 31) rfl) rfl)⟩) (fa_c (Or.inr ⟨(show (206 : Nat) ≠ 9999 by decide), mE206, 0, 16, 1, rfl, rfl, mK206.1, mK206.2, Or.inl (gw (tw8 (i := 35) rfl) rfl)⟩) (fa_c (Or.inr ⟨(show (205 : Nat) ≠ 9999 by decide), mE205, 0, 16, 1, rfl, rfl, mK205.1, mK205.2, Or.inl (gw (tw8 (i := 39) rfl) rfl)⟩) (fa_c (Or.inr ⟨(show (194 : Nat) ≠ 9999 by decide), mE194, 0, 16, 1, rfl, rfl, mK194.1, mK194.2, Or.inl (gw (tw8 (i := 43) rfl) rfl)⟩) (fa_c (Or.inr ⟨(show (193 : Nat) ≠ 9999 by decide), mE193, 1, 16, 1, rfl, rfl, mK193.1, mK193.2, Or.inl (gw (tw8 (i := 47) rfl) rfl)⟩) (fa_c (Or.inr ⟨(show (203 : Nat) ≠ 9999 by decide), mE203, 2, 16, 1, rfl, rfl, mK203.1, mK203.2, Or.inl (gw (tw8 (i := 51) rfl) rfl)⟩) (fa_c (Or.inr ⟨(show (162 : Nat) ≠ 9999 by decide), mE162, 1, 1000, 1, rfl, rfl, mK162.1, mK162.2, Or.inl (gw (tw8 (i := 55) rfl) rfl)⟩) (fa_c (Or.inr ⟨(show (207 : Nat) ≠ 9999 by decide), mE207, 1, 16, 1, rfl, rfl, mK207.1, mK207.2, Or.inl (gw (tw8 (i := 58) rfl) rfl)⟩) (fa_c (Or.inr ⟨(show (212 : Nat) ≠ 9999 by decide), mE212, 1, 16, 1, rfl, rfl, mK212.1, mK212.2, Or.inl (gw (tw8 (i := 62) rfl) rfl)⟩) (fa_c (Or.inr ⟨(show (197 : Nat) ≠ 9999 by decide), mE197, 2, 16, 1, rfl, rfl, mK197.1, mK197.2, Or.inl (gw (tw8 (i := 67) rfl) rfl)⟩) (fa_c (Or.inr ⟨(show (211 : Nat) ≠ 9999 by decide), mE211, 0, 16, 1, rfl, rfl, mK211.1, mK211.2, Or.inl (gw (tw8 (i := 73) rfl) rfl)⟩) (fa_c (Or.inr ⟨(show (208 : Nat) ≠ 9999 by decide), mE208, 0, 16, 1, rfl, rfl, mK208.1, mK208.2, Or.inl (gw (tw8 (i := 77) rfl) rfl)⟩) (fa_c (Or.inr ⟨(show (196 : Nat) ≠ 9999 by decide), mE196, 0, 16, 1, rfl, rfl, mK196.1, mK196.2, Or.inl (gw (tw8 (i := 81) rfl) rfl)⟩) (fa_c (Or.inr ⟨(show (195 : Nat) ≠ 9999 by decide), mE195, 0, 16, 1, rfl, rfl, mK195.1, mK195.2, Or.inl (gw (tw8 (i := 85) rfl) rfl)⟩) (fa_c (Or.inr ⟨(show (198 : Nat) ≠ 9999 by decide), mE198, 0, 16, 1, rfl, rfl, mK198.1, mK198.2, Or.inl (gw (tw8 (i := 89) rfl) rfl)⟩) (fa_c (Or.inr ⟨(show (199 : Nat) ≠ 9999 by decide), mE199, 0, 16, 1, rfl, rfl, mK199.1, mK199.2, Or.inl (gw (tw8 (i := 93) rfl) rfl)⟩) (fa_c (Or.inr ⟨(show (202 : Nat) ≠ 9999 by decide), mE202, 1, 16, 1, rfl, rfl, mK202.1, mK202.2, Or.inl (gw (tw8 (i := 97) rfl) rfl)⟩) (fa_c (Or.inr ⟨(show (200 : Nat) ≠ 9999 by decide), mE200, 0, 16, 1, rfl, rfl, mK200.1, mK200.2, Or.inl (gw (tw8 (i := 101) rfl) rfl)⟩) (fa_c (Or.inr ⟨(show (201 : Nat) ≠ 9999 by decide), mE201, 0, 16, 1, rfl, rfl, mK201.1, mK201.2, Or.inl (gw (tw8 (i := 105) rfl) rfl)⟩) (fa_c (Or.inr ⟨(show (204 : Nat) ≠ 9999 by decide), mE204, 2, 16, 1, rfl, rfl, mK204.1, mK204.2, Or.inl (gw (tw8 (i := 109) rfl) rfl)⟩) (fa_c (Or.inr ⟨(show (191 : Nat) ≠ 9999 by decide), mE191, 0, 16, 1, rfl, rfl, mK191.1, mK191.2, Or.inl (gw (tw8 (i := 113) rfl) rfl)⟩) (fa_c (Or.inr ⟨(show (184 : Nat) ≠ 9999 by decide), mE184, 1, 16, 1, rfl, rfl, mK184.1, mK184.2, Or.inl (gw (tw8 (i := 117) rfl) rfl)⟩) (fa_c (Or.inr ⟨(show (216 : Nat) ≠ 9999 by decide), mE216, 3, 16, 1, rfl, rfl, mK216.1, mK216.2, Or.inl (gw (tw8 (i := 125) rfl) rfl)⟩) (fa_c (Or.inr ⟨(show (217 : Nat) ≠ 9999 by decide), mE217, 3, 16, 0, rfl, rfl, mK217.1, mK217.2, Or.inl (gw (tw8 (i := 129) rfl) rfl)⟩) (fa_c (Or.inr ⟨(show (214 : Nat) ≠ 9999 by decide), mE214, 0, 16, 0, rfl, rfl, mK214.1, mK214.2, Or.inl (gw (tw8 (i := 133) rfl) rfl)⟩) (fa_c (Or.inr ⟨(show (218 : Nat) ≠ 9999 by decide), mE218, 3, 16, 0, rfl, rfl, mK218.1, mK218.2, Or.inl (gw (tw8 (i := 138) rfl) rfl)⟩) (fa_c (Or.inr ⟨(show (219 : Nat) ≠ 9999 by decide), mE219, 3, 16, 1, rfl, rfl, mK219.1, mK219.2, Or.inl (gw (tw8 (i := 142) rfl) rfl)⟩) (fa_c (Or.inr ⟨(show (215 : Nat) ≠ 9999 by decide), mE215, 1, 16, 0, rfl, rfl, mK215.1, mK215.2, Or.inl (gw (tw8 (i := 146) rfl) rfl)⟩) (fa_c (Or.inr ⟨(show (220 : Nat) ≠ 9999 by decide), mE220, 2, 16, 1, rfl, rfl, mK220.1, mK220.2, Or.inl (gw (tw8 (i := 150) rfl) rfl)⟩) (fa_c (Or.inr ⟨(show (222 : Nat) ≠ 9999 by decide), mE222, 2, 16, 0, rfl, rfl, mK222.1, mK222.2, Or.inl (gw (tw8 (i := 154) rfl) rfl)⟩) (fa_c (Or.inr ⟨(show (221 : Nat) ≠ 9999 by decide), mE221, 3, 1000, 2, rfl, rfl, mK221.1, mK221.2, Or.inl (gw (tw8 (i := 159) rfl) rfl)⟩) (fa_c (Or.inr ⟨(show (223 : Nat) ≠ 9999 by decide), mE223, 3, 16, 0, rfl, rfl, mK223.1, mK223.2, Or.inl (gw (tw8 (i := 162) rfl) rfl)⟩) (fa_c (Or.inr ⟨(show (224 : Nat) ≠ 9999 by decide), mE224, 3, 16, 1, rfl, rfl, mK224.1, mK224.2, Or.inl (gw (tw8 (i := 166) rfl) rfl)⟩) (fa_c (Or.inr ⟨(show (225 : Nat) ≠ 9999 by decide), mE225, 3, 16, 1, rfl, rfl, mK225.1, mK225.2, Or.inl (gw (tw8 (i := 170) rfl) rfl)⟩) (fa_c (Or.inr ⟨(show (229 : Nat) ≠ 9999 by decide), mE229, 3, 16, 1, rfl, rfl, mK229.1, mK229.2, Or.inl (gw (tw8 (i := 174) rfl) rfl)⟩) (fa_c (Or.inr ⟨(show (228 : Nat) ≠ 9999 by decide), mE228, 3, 16, 0, rfl, rfl, mK228.1, mK228.2, Or.inl (gw (tw8 (i := 178) rfl) rfl)⟩) (fa_c (Or.inr ⟨(show (227 : Nat) ≠ 9999 by decide), mE227, 1, 16, 0, rfl, rfl, mK227.1, mK227.2, Or.inl (gw (tw8 (i := 182) rfl) rfl)⟩) (fa_c (Or.inr ⟨(show (226 : Nat) ≠ 9999 by decide), mE226, 1, 16, 0, rfl, rfl, mK226.1, mK226.2, Or.inl (gw (tw8 (i := 186) rfl) rfl)⟩) (fa_c (Or.inr ⟨(show (231 : Nat) ≠ 9999 by decide), mE231, 10, 16, 1, rfl, rfl, mK231.1, mK231.2, Or.inl (gw (tw8 (i := 190) rfl) rfl)⟩) (fa_c (Or.inr ⟨(show (232 : Nat) ≠ 9999 by decide), mE232, 2, 16, 1, rfl, rfl, mK232.1, mK232.2, Or.inl (gw (tw8 (i := 194) rfl) rfl)⟩) (fa_c (Or.inr ⟨(show (233 : Nat) ≠ 9999 by decide), mE233, 2, 16, 1, rfl, rfl, mK233.1, mK233.2, Or.inl (gw (tw8 (i := 198) rfl) rfl)⟩) (fa_c (Or.inr ⟨(show (230 : Nat) ≠ 9999 by decide), mE230, 8, 16, 1, rfl, rfl, mK230.1, mK230.2, Or.inl (gw (tw8 (i := 202) rfl) rfl)⟩) (fa_c (Or.inr ⟨(show (235 : Nat) ≠ 9999 by decide), mE235, 1, 16, 1, rfl, rfl, mK235.1, mK235.2, Or.inl (gw (tw8 (i := 210) rfl) rfl)⟩) (fa_c (Or.inr ⟨(show (236 : Nat) ≠ 9999 by decide), mE236, 1, 16, 1, rfl, rfl, mK236.1, mK236.2, Or.inl (gw (tw8 (i := 214) rfl) rfl)⟩) (fa_c (Or.inr ⟨(show (239 : Nat) ≠ 9999 by decide), mE239, 1, 16, 0, rfl, rfl, mK239.1, mK239.2, Or.inl (gw (tw8 (i := 226) rfl) rfl)⟩) (fa_c (Or.inr ⟨(show (241 : Nat) ≠ 9999 by decide), mE241, 1, 16, 0, rfl, rfl, mK241.1, mK241.2, Or.inl (gw (tw8 (i := 230) rfl) rfl)⟩) (fa_c (Or.inr ⟨(show (243 : Nat) ≠ 9999 by decide), mE243, 3, 16, 0, rfl, rfl, mK243.1, mK243.2, Or.inl (gw (tw8 (i := 235) rfl) rfl)⟩) (fa_c (Or.inr ⟨(show (242 : Nat) ≠ 9999 by decide), mE242, 2, 16, 0, rfl, rfl, mK242.1, mK242.2, Or.inl (gw (tw8 (i := 239) rfl) rfl)⟩) (fa_c (Or.inr ⟨(show (245 : Nat) ≠ 9999 by decide), mE245, 1, 16, 0, rfl, rfl, mK245.1, mK245.2, Or.inl (gw (tw9 (i := 7) rfl) rfl)⟩) (fa_c (Or.inr ⟨(show (240 : Nat) ≠ 9999 by decide), mE240, 1, 16, 0, rfl, rfl, mK240.1, mK240.2, Or.inl (gw (tw9 (i := 11) rfl) rfl)⟩) fa_0)))))))))))))))))))))))))))))))))))))))))))))))))))))))))))))))))))))))))))))))))))))))))))
theorem pl15_k : ∀ e ∈ pl15.2.2.1, KOK "PathHouseModel" e := fa_c (⟨fun _ => ⟨by decide, _, cl15, gw (tw6 (i := 84) rfl) rfl, gw (tw6 (i := 85) rfl) rfl, gw (tw1 (i := 11) rfl) rfl⟩, fun h => absurd h (by decide)⟩) (fa_c (⟨fun _ => ⟨by decide, _, cl14, gw (tw6 (i := 113) rfl) rfl, gw (tw6 (i := 114) rfl) rfl, gw (tw1 (i := 12) rfl) rfl⟩, fun h => absurd h (by decide)⟩) (fa_c (⟨fun _ => ⟨by decide, _, cl13, gw (tw6 (i := 175) rfl) rfl, gw (tw6 (i := 176) rfl) rfl, gw (tw1 (i := 13) rfl) rfl⟩, fun h => absurd h (by decide)⟩) fa_0))
theorem pl15_i : ∀ e ∈ pl15.2.2.2.1, Cond.constant "PathHouseModel" e.1 e.2 ∈ gW := fa_c (gw (tw6 (i := 226) rfl) rfl) (fa_c (gw (tw7 (i := 178) rfl) rfl) (fa_c (gw (tw7 (i := 179) rfl) rfl) (fa_c (gw (tw7 (i := 180) rfl) rfl) (fa_c (gw (tw7 (i := 181) rfl) rfl) (fa_c (gw (tw7 (i := 190) rfl) rfl) (fa_c (gw (tw7 (i := 191) rfl) rfl) (fa_c (gw (tw8 (i := 137) rfl) rfl) fa_0)))))))
theorem pl15_j : ∀ e ∈ pl15.2.2.2.2.1, Cond.constantLong "PathHouseModel" e.1 e.2 ∈ gW := fa_c (gw (tw7 (i := 212) rfl) rfl) (fa_c (gw (tw7 (i := 213) rfl) rfl) (fa_c (gw (tw7 (i := 214) rfl) rfl) (fa_c (gw (tw8 (i := 158) rfl) rfl) (fa_c (gw (tw8 (i := 234) rfl) rfl) fa_0))))
theorem pl15_s : ∀ e ∈ pl15.2.2.2.2.2.1, ∃ tx, ("PathHouseModel", e.1, tx, e.2) ∈ strL := fa_c (⟨"null", by decide +kernel⟩) (fa_c (⟨"false", by decide +kernel⟩) (fa_c (⟨"true", by decide +kernel⟩) (fa_c (⟨"length", by decide +kernel⟩) (fa_c (⟨"count", by decide +kernel⟩) (fa_c (⟨"value", by decide +kernel⟩) fa_0)))))
theorem pl15_g : ∀ e ∈ pl15.2.2.2.2.2.2, ∃ c n dsc, (c, n, dsc, e.2) ∈ stL ∧ Cond.fieldLink "PathHouseModel" e.1 c n dsc ∈ gW := fa_0
theorem pl15_ok : PoolOK "PathHouseModel" pl15 mtab mt := pool_of pl15_f pl15_m pl15_k pl15_i pl15_j pl15_s pl15_g
def pl16 : Pool := ([], [(15, 128), (19, 129), (24, 130), (28, 131), (32, 132), (36, 133), (41, 134), (46, 135), (51, 136), (55, 137), (68, 139), (59, 281), (7, 138), (18, 151), (65, 152), (23, 154), (27, 179), (35, 180), (31, 213), (40, 234), (45, 237), (50, 238), (54, 244), (58, 246), (64, 247), (71, 248)], [(8, 13), (13, 202), (16, 17)], [], [], [], [])
theorem pl16_f : ∀ e ∈ pl16.1, FOK "PathHouseLaw" e := fa_0
theorem pl16_m : ∀ e ∈ pl16.2.1, MOK "PathHouseLaw" e := fa_c (Or.inr ⟨(show (128 : Nat) ≠ 9999 by decide), mE128, 0, 2000, 0, rfl, rfl, mK128.1, mK128.2, Or.inl (gw (tw1 (i := 37) rfl) rfl)⟩) (fa_c (Or.inr ⟨(show (129 : Nat) ≠ 9999 by decide), mE129, 5, 12, 1, rfl, rfl, mK129.1, mK129.2, Or.inl (gw (tw1 (i := 183) rfl) rfl)⟩) (fa_c (Or.inr ⟨(show (130 : Nat) ≠ 9999 by decide), mE130, 1, 12, 1, rfl, rfl, mK130.1, mK130.2, Or.inl (gw (tw1 (i := 191) rfl) rfl)⟩) (fa_c (Or.inr ⟨(show (131 : Nat) ≠ 9999 by decide), mE131, 1, 12, 1, rfl, rfl, mK131.1, mK131.2, Or.inl (gw (tw3 (i := 175) rfl) rfl)⟩) (fa_c (Or.inr ⟨(show (132 : Nat) ≠ 9999 by decide), mE132, 1, 12, 1, rfl, rfl, mK132.1, mK132.2, Or.inl (gw (tw5 (i := 26) rfl) rfl)⟩) (fa_c (Or.inr ⟨(show (133 : Nat) ≠ 9999 by decide), mE133, 0, 12, 1, rfl, rfl, mK133.1, mK133.2, Or.inl (gw (tw5 (i := 30) rfl) rfl)⟩) (fa_c (Or.inr ⟨(show (134 : Nat) ≠ 9999 by decide), mE134, 2, 12, 1, rfl, rfl, mK134.1, mK134.2, Or.inl (gw (tw5 (i := 197) rfl) rfl)⟩) (fa_c (Or.inr ⟨(show (135 : Nat) ≠ 9999 by decide), mE135, 1, 12, 2, rfl, rfl, mK135.1, mK135.2, Or.inl (gw (tw5 (i := 206) rfl) rfl)⟩) (fa_c (Or.inr ⟨(show (136 : Nat) ≠ 9999 by decide), mE136, 1, 12, 1, rfl, rfl, mK136.1, mK136.2, Or.inl (gw (tw5 (i := 210) rfl) rfl)⟩) (fa_c (Or.inr ⟨(show (137 : Nat) ≠ 9999 by decide), mE137, 1, 12, 1, rfl, rfl, mK137.1, mK137.2, Or.inl (gw (tw6 (i := 16) rfl) rfl)⟩) (fa_c (Or.inr ⟨(show (139 : Nat) ≠ 9999 by decide), mE139, 1, 12, 1, rfl, rfl, mK139.1, mK139.2, Or.inl (gw (tw6 (i := 34) rfl) rfl)⟩) (fa_c (Or.inr ⟨(show (281 : Nat) ≠ 9999 by decide), mE281, 3, 1000, 1, rfl, rfl, mK281.1, mK281.2, Or.inl (gw (tw6 (i := 45) rfl) rfl)⟩) (fa_c (Or.inr ⟨(show (138 : Nat) ≠ 9999 by decide), mE138, 1, 12, 1, rfl, rfl, mK138.1, mK138.2, Or.inl (gw (tw6 (i := 49) rfl) rfl)⟩) (fa_c (Or.inr ⟨(show (151 : Nat) ≠ 9999 by decide), mE151, 0, 2000, 0, rfl, rfl, mK151.1, mK151.2, Or.inl (gw (tw6 (i := 80) rfl) rfl)⟩) (fa_c (Or.inr ⟨(show (152 : Nat) ≠ 9999 by decide), mE152, 0, 16, 1, rfl, rfl, mK152.1, mK152.2, Or.inl (gw (tw7 (i := 99) rfl) rfl)⟩) (fa_c (Or.inr ⟨(show (154 : Nat) ≠ 9999 by decide), mE154, 5, 16, 1, rfl, rfl, mK154.1, mK154.2, Or.inl (gw (tw7 (i := 103) rfl) rfl)⟩) (fa_c (Or.inr ⟨(show (179 : Nat) ≠ 9999 by decide), mE179, 1, 16, 1, rfl, rfl, mK179.1, mK179.2, Or.inl (gw (tw7 (i := 107) rfl) rfl)⟩) (fa_c (Or.inr ⟨(show (180 : Nat) ≠ 9999 by decide), mE180, 1, 16, 1, rfl, rfl, mK180.1, mK180.2, Or.inl (gw (tw7 (i := 219) rfl) rfl)⟩) (fa_c (Or.inr ⟨(show (213 : Nat) ≠ 9999 by decide), mE213, 1, 16, 1, rfl, rfl, mK213.1, mK213.2, Or.inl (gw (tw7 (i := 223) rfl) rfl)⟩) (fa_c (Or.inr ⟨(show (234 : Nat) ≠ 9999 by decide), mE234, 0, 16, 1, rfl, rfl, mK234.1, mK234.2, Or.inl (gw (tw8 (i := 121) rfl) rfl)⟩) (fa_c (Or.inr ⟨(show (237 : Nat) ≠ 9999 by decide), mE237, 2, 16, 1, rfl, rfl, mK237.1, mK237.2, Or.inl (gw (tw8 (i := 206) rfl) rfl)⟩) (fa_c (Or.inr ⟨(show (238 : Nat) ≠ 9999 by decide), mE238, 1, 16, 2, rfl, rfl, mK238.1, mK238.2, Or.inl (gw (tw8 (i := 218) rfl) rfl)⟩) (fa_c (Or.inr ⟨(show (244 : Nat) ≠ 9999 by decide), mE244, 1, 16, 1, rfl, rfl, mK244.1, mK244.2, Or.inl (gw (tw8 (i := 222) rfl) rfl)⟩) (fa_c (Or.inr ⟨(show (246 : Nat) ≠ 9999 by decide), mE246, 1, 16, 1, rfl, rfl, mK246.1, mK246.2, Or.inl (gw (tw9 (i := 3) rfl) rfl)⟩) (fa_c (Or.inr ⟨(show (247 : Nat) ≠ 9999 by decide), mE247, 1, 16, 1, rfl, rfl, mK247.1, mK247.2, Or.inl (gw (tw9 (i := 15) rfl) rfl)⟩) (fa_c (Or.inr ⟨(show (248 : Nat) ≠ 9999 by decide), mE248, 1, 16, 1, rfl, rfl, mK248.1, mK248.2, Or.inl (gw (tw9 (i := 19) rfl) rfl)⟩) fa_0)))))))))))))))))))))))))
theorem pl16_k : ∀ e ∈ pl16.2.2.1, KOK "PathHouseLaw" e := fa_c (⟨fun _ => ⟨by decide, _, cl12, gw (tw1 (i := 35) rfl) rfl, gw (tw1 (i := 36) rfl) rfl, gw (tw1 (i := 1) rfl) rfl⟩, fun h => absurd h (by decide)⟩) (fa_c (⟨fun h => absurd h (by decide), fun h => absurd h (by decide)⟩) (fa_c (⟨fun _ => ⟨by decide, _, cl16, gw (tw6 (i := 78) rfl) rfl, gw (tw6 (i := 79) rfl) rfl, gw (tw1 (i := 7) rfl) rfl⟩, fun h => absurd h (by decide)⟩) fa_0))
theorem pl16_i : ∀ e ∈ pl16.2.2.2.1, Cond.constant "PathHouseLaw" e.1 e.2 ∈ gW := fa_0
theorem pl16_j : ∀ e ∈ pl16.2.2.2.2.1, Cond.constantLong "PathHouseLaw" e.1 e.2 ∈ gW := fa_0
theorem pl16_s : ∀ e ∈ pl16.2.2.2.2.2.1, ∃ tx, ("PathHouseLaw", e.1, tx, e.2) ∈ strL := fa_0
theorem pl16_g : ∀ e ∈ pl16.2.2.2.2.2.2, ∃ c n dsc, (c, n, dsc, e.2) ∈ stL ∧ Cond.fieldLink "PathHouseLaw" e.1 c n dsc ∈ gW := fa_0
theorem pl16_ok : PoolOK "PathHouseLaw" pl16 mtab mt := pool_of pl16_f pl16_m pl16_k pl16_i pl16_j pl16_s pl16_g
def pl17 : Pool := ([], [(16, 283)], [], [], [], [], [])
theorem pl17_f : ∀ e ∈ pl17.1, FOK "java/lang/RuntimeException" e := fa_0
theorem pl17_m : ∀ e ∈ pl17.2.1, MOK "java/lang/RuntimeException" e := fa_c (Or.inr ⟨(show (283 : Nat) ≠ 9999 by decide), mE283, 4, 2000, 0, rfl, rfl, mK283.1, mK283.2, Or.inl (gw (tw6 (i := 99) rfl) rfl)⟩) fa_0
theorem pl17_k : ∀ e ∈ pl17.2.2.1, KOK "java/lang/RuntimeException" e := fa_0
theorem pl17_i : ∀ e ∈ pl17.2.2.2.1, Cond.constant "java/lang/RuntimeException" e.1 e.2 ∈ gW := fa_0
theorem pl17_j : ∀ e ∈ pl17.2.2.2.2.1, Cond.constantLong "java/lang/RuntimeException" e.1 e.2 ∈ gW := fa_0
theorem pl17_s : ∀ e ∈ pl17.2.2.2.2.2.1, ∃ tx, ("java/lang/RuntimeException", e.1, tx, e.2) ∈ strL := fa_0
theorem pl17_g : ∀ e ∈ pl17.2.2.2.2.2.2, ∃ c n dsc, (c, n, dsc, e.2) ∈ stL ∧ Cond.fieldLink "java/lang/RuntimeException" e.1 c n dsc ∈ gW := fa_0
theorem pl17_ok : PoolOK "java/lang/RuntimeException" pl17 mtab mt := pool_of pl17_f pl17_m pl17_k pl17_i pl17_j pl17_s pl17_g
def pl18 : Pool := ([], [(16, 284)], [], [], [], [], [])
theorem pl18_f : ∀ e ∈ pl18.1, FOK "java/lang/Exception" e := fa_0
theorem pl18_m : ∀ e ∈ pl18.2.1, MOK "java/lang/Exception" e := fa_c (Or.inr ⟨(show (284 : Nat) ≠ 9999 by decide), mE284, 4, 2000, 0, rfl, rfl, mK284.1, mK284.2, Or.inl (gw (tw6 (i := 102) rfl) rfl)⟩) fa_0
theorem pl18_k : ∀ e ∈ pl18.2.2.1, KOK "java/lang/Exception" e := fa_0
theorem pl18_i : ∀ e ∈ pl18.2.2.2.1, Cond.constant "java/lang/Exception" e.1 e.2 ∈ gW := fa_0
theorem pl18_j : ∀ e ∈ pl18.2.2.2.2.1, Cond.constantLong "java/lang/Exception" e.1 e.2 ∈ gW := fa_0
theorem pl18_s : ∀ e ∈ pl18.2.2.2.2.2.1, ∃ tx, ("java/lang/Exception", e.1, tx, e.2) ∈ strL := fa_0
theorem pl18_g : ∀ e ∈ pl18.2.2.2.2.2.2, ∃ c n dsc, (c, n, dsc, e.2) ∈ stL ∧ Cond.fieldLink "java/lang/Exception" e.1 c n dsc ∈ gW := fa_0
theorem pl18_ok : PoolOK "java/lang/Exception" pl18 mtab mt := pool_of pl18_f pl18_m pl18_k pl18_i pl18_j pl18_s pl18_g
def pl19 : Pool := ([(198, 15, 4, 1), (198, 15, 4, 1), (31, 15, 3, 1), (7, 15, 0, 1), (17, 15, 1, 1), (24, 15, 2, 1)], [(1, 9999)], [], [], [], [], [(13, 0), (20, 1)])
theorem pl19_f : ∀ e ∈ pl19.1, FOK "java/lang/Throwable" e := fa_c (⟨by decide, _, cl15, by decide, Or.inl (gw (tw2 (i := 19) rfl) rfl), fun h => ⟨rfl, gw (tw2 (i := 19) rfl) rfl⟩⟩) (fa_c (⟨by decide, _, cl15, by decide, Or.inl (gw (tw2 (i := 53) rfl) rfl), fun h => ⟨rfl, gw (tw2 (i := 53) rfl) rfl⟩⟩) (fa_c (⟨by decide, _, cl15, by decide, Or.inl (gw (tw2 (i := 54) rfl) rfl), fun h => ⟨rfl, gw (tw2 (i := 54) rfl) rfl⟩⟩) (fa_c (⟨by decide, _, cl15, by decide, Or.inl (gw (tw2 (i := 55) rfl) rfl), fun h => ⟨rfl, gw (tw2 (i := 55) rfl) rfl⟩⟩) (fa_c (⟨by decide, _, cl15, by decide, Or.inl (gw (tw2 (i := 56) rfl) rfl), fun h => ⟨rfl, gw (tw2 (i := 56) rfl) rfl⟩⟩) (fa_c (⟨by decide, _, cl15, by decide, Or.inl (gw (tw2 (i := 57) rfl) rfl), fun h => ⟨rfl, gw (tw2 (i := 57) rfl) rfl⟩⟩) fa_0)))))
theorem pl19_m : ∀ e ∈ pl19.2.1, MOK "java/lang/Throwable" e := fa_c (Or.inl ⟨rfl, mt_no, gw (tw2 (i := 23) rfl) rfl, gw (tw1 (i := 41) rfl) rfl, gw (tw1 (i := 42) rfl) rfl⟩) fa_0
theorem pl19_k : ∀ e ∈ pl19.2.2.1, KOK "java/lang/Throwable" e := fa_0
theorem pl19_i : ∀ e ∈ pl19.2.2.2.1, Cond.constant "java/lang/Throwable" e.1 e.2 ∈ gW := fa_0
theorem pl19_j : ∀ e ∈ pl19.2.2.2.2.1, Cond.constantLong "java/lang/Throwable" e.1 e.2 ∈ gW := fa_0
theorem pl19_s : ∀ e ∈ pl19.2.2.2.2.2.1, ∃ tx, ("java/lang/Throwable", e.1, tx, e.2) ∈ strL := fa_0
theorem pl19_g : ∀ e ∈ pl19.2.2.2.2.2.2, ∃ c n dsc, (c, n, dsc, e.2) ∈ stL ∧ Cond.fieldLink "java/lang/Throwable" e.1 c n dsc ∈ gW := fa_c (⟨"java/lang/Throwable", "UNASSIGNED_STACK", "[Ljava/lang/StackTraceElement;", by decide +kernel, gw (tw2 (i := 24) rfl) rfl⟩) (fa_c (⟨"java/lang/Throwable", "SUPPRESSED_SENTINEL", "Ljava/util/List;", by decide +kernel, gw (tw2 (i := 26) rfl) rfl⟩) fa_0)
theorem pl19_ok : PoolOK "java/lang/Throwable" pl19 mtab mt := pool_of pl19_f pl19_m pl19_k pl19_i pl19_j pl19_s pl19_g
end
section
/-! code tables -/
def Mof (q : ME) : Mi := (q.1.cls, q.1.name, q.2.2.1, q.2.2.2.1, q.2.2.2.2.1, q.2.2.2.2.2)
def noThr (P : Pool) (i : Instr) : Bool := match i with
  | .new ik => match P.2.2.1.lookup ik with
    | some kd => kd < 100
    | none => true
  | _ => true
def chk (nL : Nat) (q : Nat × Instr × Nat) : Bool := ilenOK q.2.1 q.2.2 && stoOK q.2.1 nL && tgtOK q.1 q.2.1
theorem lk_in' {l : Code1} {a : Nat} {b : Instr × Nat} (h : l.lookup a = some b) : (a, b) ∈ l := by
  induction l with
  | nil => cases h
  | cons q r ih =>
    obtain ⟨c, e⟩ := q
    rw [List.lookup_cons] at h
    by_cases z : a = c
    · subst z
      simp at h
      rw [h]
      exact List.mem_cons_self
    · have z' : (a == c) = false := by simp [z]
      rw [z'] at h
      exact List.mem_cons_of_mem _ (ih h)
theorem code_1 {cc : ByteArray} {nL : Nat} {l : Code1} (h1 : ∀ q ∈ l, decode cc q.1 = .ok q.2) (h2 : l.all (chk nL) = true) : ∀ pc i len, l.lookup pc = some (i, len) → decode cc pc = .ok (i, len) ∧ ilenOK i len = true ∧ stoOK i nL = true ∧ tgtOK pc i = true := by
  intro pc i len h
  have hm := lk_in' h
  have h3 : chk nL (pc, i, len) = true := List.all_eq_true.mp h2 (pc, i, len) hm
  have h4 : decode cc pc = .ok (i, len) := h1 (pc, i, len) hm
  unfold chk at h3
  dsimp only at h3
  rw [Bool.and_eq_true, Bool.and_eq_true] at h3
  obtain ⟨⟨a1, a2⟩, a3⟩ := h3
  exact ⟨h4, a1, a2, a3⟩
theorem thr_0 {M : Mi} {X : MT} (h : X.1.all (fun q => noThr X.2.1 q.2.1) = true) : ∀ pc ik l0 kd is l4 ic l6, X.1.lookup pc = some (.new ik, l0) → X.2.1.2.2.1.lookup ik = some kd → ¬ kd < 100 → X.1.lookup (pc + 4) = some (.ldc is, l4) → X.1.lookup (pc + 6) = some (.invokespecial ic, l6) → ∃ e9 sn text, e9 < 3 ∧ kd = 200 + e9 ∧ TW M ik is ic e9 sn text := by
  intro pc ik l0 kd is l4 ic l6 h1 h2 h3
  have h4 := List.all_eq_true.mp h _ (lk_in' h1)
  simp only [noThr, h2, decide_eq_true_eq] at h4
  exact absurd h4 h3
end
section
def k0 : Code1 := [(0, .aload_n 0, 1), (1, .invokespecial 3, 3), (4, .aload_n 0, 1), (5, .bipush 34, 2), (7, .anewarray 11, 3), (10, .putfield 13, 3), (13, .return_, 1)]
def X0 : MT := (k0, pl0, none, true, [])
theorem k0_d : ∀ q ∈ k0, decode cX0_init q.1 = .ok q.2 := by decide +kernel
theorem X0_ok : CodeOK (Mof mE0) X0 := ⟨code_1 k0_d (by decide +kernel), rfl, fun _ => rfl, Or.inl ⟨rfl, rfl⟩, thr_0 (by decide +kernel)⟩
def k1 : Code1 := [(0, .aload_n 0, 1), (1, .aconst_null, 1), (2, .putfield 17, 3), (5, .return_, 1)]
def X1 : MT := (k1, pl0, none, false, [])
theorem k1_d : ∀ q ∈ k1, decode cX0_forget q.1 = .ok q.2 := by decide +kernel
theorem X1_ok : CodeOK (Mof mE1) X1 := ⟨code_1 k1_d (by decide +kernel), rfl, fun h => absurd h (by decide), Or.inl ⟨rfl, rfl⟩, thr_0 (by decide +kernel)⟩
def k2 : Code1 := [(0, .aload_n 0, 1), (1, .getfield 17, 3), (4, .ifnonnull 7, 3), (7, .aconst_null, 1), (8, .goto 11, 3), (11, .aload_n 0, 1), (12, .getfield 17, 3), (15, .iload_n 1, 1), (16, .invokevirtual 21, 3), (19, .areturn, 1)]
def X2 : MT := (k2, pl0, (some (FieldType.object "PathHouse$Node")), false, [])
theorem k2_d : ∀ q ∈ k2, decode cX0_result q.1 = .ok q.2 := by decide +kernel
theorem X2_ok : CodeOK (Mof mE2) X2 := ⟨code_1 k2_d (by decide +kernel), rfl, fun h => absurd h (by decide), Or.inl ⟨rfl, rfl⟩, thr_0 (by decide +kernel)⟩
def k3 : Code1 := [(0, .aload_n 0, 1), (1, .getfield 17, 3), (4, .ifnonnull 7, 3), (7, .iconst 0, 1), (8, .goto 10, 3), (11, .aload_n 0, 1), (12, .getfield 17, 3), (15, .getfield 25, 3), (18, .ireturn, 1)]
def X3 : MT := (k3, pl0, (some FieldType.int), false, [])
theorem k3_d : ∀ q ∈ k3, decode cX0_results q.1 = .ok q.2 := by decide +kernel
theorem X3_ok : CodeOK (Mof mE3) X3 := ⟨code_1 k3_d (by decide +kernel), rfl, fun h => absurd h (by decide), Or.inl ⟨rfl, rfl⟩, thr_0 (by decide +kernel)⟩
def k4 : Code1 := [(0, .aload_n 0, 1), (1, .aload_n 2, 1), (2, .putfield 29, 3), (5, .aload_n 0, 1), (6, .aconst_null, 1), (7, .putfield 17, 3), (10, .aload_n 0, 1), (11, .iconst 0, 1), (12, .putfield 33, 3), (15, .aload_n 0, 1), (16, .aload_n 0, 1), (17, .aload_n 1, 1), (18, .aload_n 2, 1), (19, .iconst 0, 1), (20, .invokevirtual 36, 3), (23, .putfield 17, 3), (26, .goto 9, 3), (29, .astore_n 3, 1), (30, .aload_n 0, 1), (31, .getfield 42, 3), (34, .ireturn, 1), (35, .aload_n 0, 1), (36, .invokevirtual 45, 3), (39, .ireturn, 1)]
def X4 : MT := (k4, pl0, (some FieldType.int), false, [(15, 26, 29, 201)])
theorem k4_d : ∀ q ∈ k4, decode cX0_run q.1 = .ok q.2 := by decide +kernel
theorem X4_ok : CodeOK (Mof mE4) X4 := ⟨code_1 k4_d (by decide +kernel), rfl, fun h => absurd h (by decide), Or.inr ⟨15, 26, 29, 40, 201, rfl, rfl, by decide, Or.inr ⟨1, by decide, rfl, gw (tw5 (i := 38) rfl) rfl⟩⟩, thr_0 (by decide +kernel)⟩
def k5 : Code1 := [(0, .aload_n 0, 1), (1, .iload_n 1, 1), (2, .putfield 42, 3), (5, .new 40, 3), (8, .dup, 1), (9, .ldc 49, 2), (11, .invokespecial 51, 3), (14, .athrow, 1)]
def X5 : MT := (k5, pl0, none, false, [])
theorem k5_d : ∀ q ∈ k5, decode cX0_stop q.1 = .ok q.2 := by decide +kernel
-- thrower 5
theorem tw5_ : TW (Mof mE5) 40 49 51 1 5 "the find ends here" := ⟨gw (tw5 (i := 38) rfl) rfl, gw (tw1 (i := 32) rfl) rfl, by decide +kernel, by decide +kernel, by decide +kernel, by decide +kernel, by decide +kernel, by decide +kernel, by decide +kernel⟩
theorem thr5 : ∀ pc ik l0 kd is l4 ic l6, X5.1.lookup pc = some (.new ik, l0) → X5.2.1.2.2.1.lookup ik = some kd → ¬ kd < 100 → X5.1.lookup (pc + 4) = some (.ldc is, l4) → X5.1.lookup (pc + 6) = some (.invokespecial ic, l6) → ∃ e9 sn text, e9 < 3 ∧ kd = 200 + e9 ∧ TW (Mof mE5) ik is ic e9 sn text := by
  intro pc ik l0 kd is l4 ic l6 h1 h2 h3 h4 h5
  have hm := lk_in' h1
  have hm2 : (pc, Instr.new ik, l0) ∈ k5 := hm
  simp [k5] at hm2
  obtain ⟨rfl, rfl, rfl⟩ := hm2
  have h2' : some 201 = some kd := h2
  have h4' : some (Instr.ldc 49, 2) = some (Instr.ldc is, l4) := h4
  have h5' : some (Instr.invokespecial 51, 3) = some (Instr.invokespecial ic, l6) := h5
  cases h2'; cases h4'; cases h5'
  exact ⟨1, _, _, by decide, rfl, tw5_⟩
theorem X5_ok : CodeOK (Mof mE5) X5 := ⟨code_1 k5_d (by decide +kernel), rfl, fun h => absurd h (by decide), Or.inl ⟨rfl, rfl⟩, thr5⟩
def k6 : Code1 := [(0, .aload_n 0, 1), (1, .getfield 33, 3), (4, .ldc 54, 2), (6, .if_icmp .lt 9, 3), (9, .aload_n 0, 1), (10, .bipush (-3), 2), (12, .invokevirtual 55, 3), (15, .aload_n 0, 1), (16, .dup, 1), (17, .getfield 33, 3), (20, .iconst 1, 1), (21, .iadd, 1), (22, .putfield 33, 3), (25, .return_, 1)]
def X6 : MT := (k6, pl0, none, false, [])
theorem k6_d : ∀ q ∈ k6, decode cX0_look q.1 = .ok q.2 := by decide +kernel
theorem X6_ok : CodeOK (Mof mE6) X6 := ⟨code_1 k6_d (by decide +kernel), rfl, fun h => absurd h (by decide), Or.inl ⟨rfl, rfl⟩, thr_0 (by decide +kernel)⟩
def k7 : Code1 := [(0, .aload_n 1, 1), (1, .ifnull 17, 3), (4, .aload_n 2, 1), (5, .aload_n 1, 1), (6, .invokevirtual 59, 3), (9, .ifCond .ne 9, 3), (12, .aload_n 0, 1), (13, .bipush (-4), 2), (15, .invokevirtual 55, 3), (18, .return_, 1)]
def X7 : MT := (k7, pl0, none, false, [])
theorem k7_d : ∀ q ∈ k7, decode cX0_put q.1 = .ok q.2 := by decide +kernel
theorem X7_ok : CodeOK (Mof mE7) X7 := ⟨code_1 k7_d (by decide +kernel), rfl, fun h => absurd h (by decide), Or.inl ⟨rfl, rfl⟩, thr_0 (by decide +kernel)⟩
def k8 : Code1 := [(0, .iload_n 1, 1), (1, .ifCond .lt 12, 3), (4, .iload_n 1, 1), (5, .aload_n 0, 1), (6, .getfield 13, 3), (9, .arraylength, 1), (10, .if_icmp .lt 11, 3), (13, .aload_n 0, 1), (14, .bipush (-4), 2), (16, .invokevirtual 55, 3), (19, .aconst_null, 1), (20, .areturn, 1), (21, .aload_n 0, 1), (22, .getfield 13, 3), (25, .iload_n 1, 1), (26, .aaload, 1), (27, .ifnonnull 16, 3), (30, .aload_n 0, 1), (31, .getfield 13, 3), (34, .iload_n 1, 1), (35, .new 11, 3), (38, .dup, 1), (39, .invokespecial 63, 3), (42, .aastore, 1), (43, .aload_n 0, 1), (44, .getfield 13, 3), (47, .iload_n 1, 1), (48, .aaload, 1), (49, .iconst 0, 1), (50, .putfield 25, 3), (53, .aload_n 0, 1), (54, .getfield 13, 3), (57, .iload_n 1, 1), (58, .aaload, 1), (59, .areturn, 1)]
def X8 : MT := (k8, pl0, (some (FieldType.object "PathHouse$Row")), false, [])
theorem k8_d : ∀ q ∈ k8, decode cX0_emptyRow q.1 = .ok q.2 := by decide +kernel
theorem X8_ok : CodeOK (Mof mE8) X8 := ⟨code_1 k8_d (by decide +kernel), rfl, fun h => absurd h (by decide), Or.inl ⟨rfl, rfl⟩, thr_0 (by decide +kernel)⟩
def k9 : Code1 := [(0, .iconst 2, 1), (1, .iload_n 3, 1), (2, .imul, 1), (3, .istore 4, 2), (5, .aload_n 0, 1), (6, .iload 4, 2), (8, .invokevirtual 64, 3), (11, .astore 5, 2), (13, .aload_n 0, 1), (14, .aload_n 1, 1), (15, .getfield 68, 3), (18, .ifCond .eq 10, 3), (21, .aload_n 0, 1), (22, .getfield 29, 3), (25, .goto 4, 3), (28, .aload_n 2, 1), (29, .aload 5, 2), (31, .invokevirtual 74, 3), (34, .iconst 0, 1), (35, .istore 6, 2), (37, .iload 6, 2), (39, .aload_n 1, 1), (40, .getfield 78, 3), (43, .invokevirtual 82, 3), (46, .if_icmp .ge 72, 3), (49, .iload 4, 2), (51, .iconst 1, 1), (52, .ixor, 1), (53, .istore 4, 2), (55, .aload_n 0, 1), (56, .iload 4, 2), (58, .invokevirtual 64, 3), (61, .astore 7, 2), (63, .iconst 0, 1), (64, .istore 8, 2), (66, .iload 8, 2), (68, .aload 5, 2), (70, .getfield 25, 3), (73, .if_icmp .ge 35, 3), (76, .aload_n 0, 1), (77, .aload_n 1, 1), (78, .getfield 78, 3), (81, .iload 6, 2), (83, .invokevirtual 87, 3), (86, .checkcast 90, 3), (89, .aload 5, 2), (91, .iload 8, 2), (93, .invokevirtual 21, 3), (96, .aload 7, 2), (98, .iload_n 3, 1), (99, .invokevirtual 92, 3), (102, .iinc 8 1, 3), (105, .goto (-39), 3), (108, .aload 7, 2), (110, .astore 5, 2), (112, .iinc 6 1, 3), (115, .goto (-78), 3), (118, .aload 5, 2), (120, .areturn, 1)]
def X9 : MT := (k9, pl0, (some (FieldType.object "PathHouse$Row")), false, [])
theorem k9_d : ∀ q ∈ k9, decode cX0_select q.1 = .ok q.2 := by decide +kernel
theorem X9_ok : CodeOK (Mof mE9) X9 := ⟨code_1 k9_d (by decide +kernel), rfl, fun h => absurd h (by decide), Or.inl ⟨rfl, rfl⟩, thr_0 (by decide +kernel)⟩
def k10 : Code1 := [(0, .aload_n 1, 1), (1, .getfield 96, 3), (4, .ifCond .ne 13, 3), (7, .aload_n 0, 1), (8, .aload_n 1, 1), (9, .aload_n 2, 1), (10, .aload_n 3, 1), (11, .iload 4, 2), (13, .invokevirtual 99, 3), (16, .return_, 1), (17, .aload_n 2, 1), (18, .astore 5, 2), (20, .aload 5, 2), (22, .ifnull 39, 3), (25, .aload 5, 2), (27, .getfield 102, 3), (30, .aload_n 2, 1), (31, .getfield 107, 3), (34, .if_icmp .gt 27, 3), (37, .aload_n 0, 1), (38, .invokevirtual 110, 3), (41, .aload_n 0, 1), (42, .aload_n 1, 1), (43, .aload 5, 2), (45, .aload_n 3, 1), (46, .iload 4, 2), (48, .invokevirtual 99, 3), (51, .aload 5, 2), (53, .getfield 113, 3), (56, .astore 5, 2), (58, .goto (-38), 3), (61, .return_, 1)]
def X10 : MT := (k10, pl0, none, false, [])
theorem k10_d : ∀ q ∈ k10, decode cX0_walk q.1 = .ok q.2 := by decide +kernel
theorem X10_ok : CodeOK (Mof mE10) X10 := ⟨code_1 k10_d (by decide +kernel), rfl, fun h => absurd h (by decide), Or.inl ⟨rfl, rfl⟩, thr_0 (by decide +kernel)⟩
def k11 : Code1 := [(0, .iconst 0, 1), (1, .istore 5, 2), (3, .iload 5, 2), (5, .aload_n 1, 1), (6, .getfield 116, 3), (9, .invokevirtual 82, 3), (12, .if_icmp .ge 33, 3), (15, .aload_n 0, 1), (16, .invokevirtual 110, 3), (19, .aload_n 0, 1), (20, .aload_n 1, 1), (21, .getfield 116, 3), (24, .iload 5, 2), (26, .invokevirtual 87, 3), (29, .checkcast 119, 3), (32, .aload_n 2, 1), (33, .aload_n 3, 1), (34, .iload 4, 2), (36, .invokevirtual 121, 3), (39, .iinc 5 1, 3), (42, .goto (-39), 3), (45, .return_, 1)]
def X11 : MT := (k11, pl0, none, false, [])
theorem k11_d : ∀ q ∈ k11, decode cX0_ask q.1 = .ok q.2 := by decide +kernel
theorem X11_ok : CodeOK (Mof mE11) X11 := ⟨code_1 k11_d (by decide +kernel), rfl, fun h => absurd h (by decide), Or.inl ⟨rfl, rfl⟩, thr_0 (by decide +kernel)⟩
def k12 : Code1 := [(0, .aload_n 1, 1), (1, .getfield 125, 3), (4, .tableswitch 83 0 3 #[32, 48, 57, 73], 32), (36, .aload_n 0, 1), (37, .aload_n 2, 1), (38, .aload_n 1, 1), (39, .getfield 128, 3), (42, .invokevirtual 132, 3), (45, .aload_n 3, 1), (46, .invokevirtual 74, 3), (49, .goto 50, 3), (52, .aload_n 0, 1), (53, .aload_n 2, 1), (54, .aload_n 3, 1), (55, .invokevirtual 136, 3), (58, .goto 41, 3), (61, .aload_n 0, 1), (62, .aload_n 2, 1), (63, .aload_n 1, 1), (64, .getfield 139, 3), (67, .invokevirtual 143, 3), (70, .aload_n 3, 1), (71, .invokevirtual 74, 3), (74, .goto 25, 3), (77, .aload_n 0, 1), (78, .aload_n 1, 1), (79, .aload_n 2, 1), (80, .aload_n 3, 1), (81, .invokevirtual 147, 3), (84, .goto 15, 3), (87, .aload_n 0, 1), (88, .aload_n 1, 1), (89, .getfield 151, 3), (92, .aload_n 2, 1), (93, .aload_n 3, 1), (94, .iload 4, 2), (96, .invokevirtual 155, 3), (99, .return_, 1)]
def X12 : MT := (k12, pl0, none, false, [])
theorem k12_d : ∀ q ∈ k12, decode cX0_pick q.1 = .ok q.2 := by decide +kernel
theorem X12_ok : CodeOK (Mof mE12) X12 := ⟨code_1 k12_d (by decide +kernel), rfl, fun h => absurd h (by decide), Or.inl ⟨rfl, rfl⟩, thr_0 (by decide +kernel)⟩
def k13 : Code1 := [(0, .iconst 0, 1), (1, .istore_n 3, 1), (2, .iload_n 3, 1), (3, .aload_n 1, 1), (4, .invokevirtual 159, 3), (7, .if_icmp .ge 20, 3), (10, .aload_n 0, 1), (11, .aload_n 1, 1), (12, .iload_n 3, 1), (13, .i2l, 1), (14, .invokevirtual 162, 3), (17, .aload_n 2, 1), (18, .invokevirtual 74, 3), (21, .iinc 3 1, 3), (24, .goto (-22), 3), (27, .return_, 1)]
def X13 : MT := (k13, pl0, none, false, [])
theorem k13_d : ∀ q ∈ k13, decode cX0_pickAll q.1 = .ok q.2 := by decide +kernel
theorem X13_ok : CodeOK (Mof mE13) X13 := ⟨code_1 k13_d (by decide +kernel), rfl, fun h => absurd h (by decide), Or.inl ⟨rfl, rfl⟩, thr_0 (by decide +kernel)⟩
def k14 : Code1 := [(0, .iconst 0, 1), (1, .istore 5, 2), (3, .iload 5, 2), (5, .aload_n 2, 1), (6, .invokevirtual 159, 3), (9, .if_icmp .ge 44, 3), (12, .aload_n 0, 1), (13, .invokevirtual 110, 3), (16, .aload_n 0, 1), (17, .aload_n 1, 1), (18, .aload_n 2, 1), (19, .iload 5, 2), (21, .i2l, 1), (22, .invokevirtual 162, 3), (25, .iload 4, 2), (27, .iconst 1, 1), (28, .iadd, 1), (29, .invokevirtual 165, 3), (32, .ifCond .eq 15, 3), (35, .aload_n 0, 1), (36, .aload_n 2, 1), (37, .iload 5, 2), (39, .i2l, 1), (40, .invokevirtual 162, 3), (43, .aload_n 3, 1), (44, .invokevirtual 74, 3), (47, .iinc 5 1, 3), (50, .goto (-47), 3), (53, .return_, 1)]
def X14 : MT := (k14, pl0, none, false, [])
theorem k14_d : ∀ q ∈ k14, decode cX0_pickTrue q.1 = .ok q.2 := by decide +kernel
theorem X14_ok : CodeOK (Mof mE14) X14 := ⟨code_1 k14_d (by decide +kernel), rfl, fun h => absurd h (by decide), Or.inl ⟨rfl, rfl⟩, thr_0 (by decide +kernel)⟩
def k15 : Code1 := [(0, .aload_n 2, 1), (1, .getfield 169, 3), (4, .iconst 5, 1), (5, .if_icmp .ne 12, 3), (8, .aload_n 1, 1), (9, .getfield 170, 3), (12, .lconst 0, 1), (13, .lcmp, 1), (14, .ifCond .ne 4, 3), (17, .return_, 1), (18, .aload_n 2, 1), (19, .invokevirtual 159, 3), (22, .istore 4, 2), (24, .aload_n 1, 1), (25, .getfield 170, 3), (28, .lconst 0, 1), (29, .lcmp, 1), (30, .ifCond .le 91, 3), (33, .aload_n 1, 1), (34, .getfield 173, 3), (37, .ifCond .eq 19, 3), (40, .aload_n 1, 1), (41, .getfield 176, 3), (44, .iload 4, 2), (46, .lconst 0, 1), (47, .iload 4, 2), (49, .i2l, 1), (50, .invokestatic 179, 3), (53, .goto 6, 3), (56, .iload 4, 2), (58, .i2l, 1), (59, .lstore 5, 2), (61, .aload_n 1, 1), (62, .getfield 183, 3), (65, .ifCond .eq 19, 3), (68, .aload_n 1, 1), (69, .getfield 139, 3), (72, .iload 4, 2), (74, .lconst 0, 1), (75, .iload 4, 2), (77, .i2l, 1), (78, .invokestatic 179, 3), (81, .goto 4, 3), (84, .lconst 0, 1), (85, .lstore 7, 2), (87, .lload 7, 2), (89, .lload 5, 2), (91, .lcmp, 1), (92, .ifCond .ge 26, 3), (95, .aload_n 0, 1), (96, .aload_n 2, 1), (97, .lload 7, 2), (99, .invokevirtual 162, 3), (102, .aload_n 3, 1), (103, .invokevirtual 74, 3), (106, .lload 7, 2), (108, .aload_n 1, 1), (109, .getfield 170, 3), (112, .ladd, 1), (113, .lstore 7, 2), (115, .goto (-28), 3), (118, .goto 100, 3), (121, .aload_n 1, 1), (122, .getfield 173, 3), (125, .ifCond .eq 23, 3), (128, .aload_n 1, 1), (129, .getfield 176, 3), (132, .iload 4, 2), (134, .ldc2_w 186, 3), (137, .iload 4, 2), (139, .iconst 1, 1), (140, .isub, 1), (141, .i2l, 1), (142, .invokestatic 179, 3), (145, .goto 6, 3), (148, .ldc2_w 186, 3), (151, .lstore 5, 2), (153, .aload_n 1, 1), (154, .getfield 183, 3), (157, .ifCond .eq 23, 3), (160, .aload_n 1, 1), (161, .getfield 139, 3), (164, .iload 4, 2), (166, .ldc2_w 186, 3), (169, .iload 4, 2), (171, .iconst 1, 1), (172, .isub, 1), (173, .i2l, 1), (174, .invokestatic 179, 3), (177, .goto 8, 3), (180, .iload 4, 2), (182, .iconst 1, 1), (183, .isub, 1), (184, .i2l, 1), (185, .lstore 7, 2), (187, .lload 7, 2), (189, .lload 5, 2), (191, .lcmp, 1), (192, .ifCond .le 26, 3), (195, .aload_n 0, 1), (196, .aload_n 2, 1), (197, .lload 7, 2), (199, .invokevirtual 162, 3), (202, .aload_n 3, 1), (203, .invokevirtual 74, 3), (206, .lload 7, 2), (208, .aload_n 1, 1), (209, .getfield 170, 3), (212, .ladd, 1), (213, .lstore 7, 2), (215, .goto (-28), 3), (218, .return_, 1)]
def X15 : MT := (k15, pl0, none, false, [])
theorem k15_d : ∀ q ∈ k15, decode cX0_pickSlice q.1 = .ok q.2 := by decide +kernel
theorem X15_ok : CodeOK (Mof mE15) X15 := ⟨code_1 k15_d (by decide +kernel), rfl, fun h => absurd h (by decide), Or.inl ⟨rfl, rfl⟩, thr_0 (by decide +kernel)⟩
def k16 : Code1 := [(0, .lload_n 0, 1), (1, .lconst 0, 1), (2, .lcmp, 1), (3, .ifCond .ge 10, 3), (6, .lload_n 0, 1), (7, .iload_n 2, 1), (8, .i2l, 1), (9, .ladd, 1), (10, .goto 4, 3), (13, .lload_n 0, 1), (14, .lstore 7, 2), (16, .lload_n 3, 1), (17, .lload 5, 2), (19, .lload 7, 2), (21, .invokestatic 188, 3), (24, .invokestatic 194, 3), (27, .lreturn, 1)]
def X16 : MT := (k16, pl0, (some FieldType.long), false, [])
theorem k16_d : ∀ q ∈ k16, decode cX0_bounded q.1 = .ok q.2 := by decide +kernel
theorem X16_ok : CodeOK (Mof mE16) X16 := ⟨code_1 k16_d (by decide +kernel), rfl, fun h => absurd h (by decide), Or.inl ⟨rfl, rfl⟩, thr_0 (by decide +kernel)⟩
def k17 : Code1 := [(0, .aload_n 1, 1), (1, .ifnonnull 5, 3), (4, .iconst 0, 1), (5, .ireturn, 1), (6, .aload_n 1, 1), (7, .getfield 197, 3), (10, .iconst 1, 1), (11, .if_icmp .ne 7, 3), (14, .iconst 1, 1), (15, .goto 4, 3), (18, .iconst 0, 1), (19, .istore 4, 2), (21, .aload_n 1, 1), (22, .getfield 197, 3), (25, .tableswitch 148 0 2 #[27, 67, 107], 27), (52, .iconst 0, 1), (53, .istore 5, 2), (55, .iload 5, 2), (57, .aload_n 1, 1), (58, .invokevirtual 200, 3), (61, .if_icmp .ge 28, 3), (64, .iload 4, 2), (66, .ifCond .ne 23, 3), (69, .aload_n 0, 1), (70, .aload_n 1, 1), (71, .iload 5, 2), (73, .invokevirtual 203, 3), (76, .aload_n 2, 1), (77, .iload_n 3, 1), (78, .invokevirtual 165, 3), (81, .istore 4, 2), (83, .iinc 5 1, 3), (86, .goto (-31), 3), (89, .goto 101, 3), (92, .iconst 0, 1), (93, .istore 5, 2), (95, .iload 5, 2), (97, .aload_n 1, 1), (98, .invokevirtual 200, 3), (101, .if_icmp .ge 28, 3), (104, .iload 4, 2), (106, .ifCond .eq 23, 3), (109, .aload_n 0, 1), (110, .aload_n 1, 1), (111, .iload 5, 2), (113, .invokevirtual 203, 3), (116, .aload_n 2, 1), (117, .iload_n 3, 1), (118, .invokevirtual 165, 3), (121, .istore 4, 2), (123, .iinc 5 1, 3), (126, .goto (-31), 3), (129, .goto 61, 3), (132, .aload_n 0, 1), (133, .aload_n 1, 1), (134, .getfield 207, 3), (137, .aload_n 2, 1), (138, .iload_n 3, 1), (139, .invokevirtual 210, 3), (142, .astore 5, 2), (144, .aload_n 0, 1), (145, .aload_n 1, 1), (146, .getfield 214, 3), (149, .aload_n 2, 1), (150, .iload_n 3, 1), (151, .invokevirtual 210, 3), (154, .astore 6, 2), (156, .aload_n 0, 1), (157, .aload_n 1, 1), (158, .getfield 217, 3), (161, .aload 5, 2), (163, .aload 6, 2), (165, .invokevirtual 220, 3), (168, .istore 4, 2), (170, .goto 20, 3), (173, .aload_n 0, 1), (174, .aload_n 1, 1), (175, .aload_n 2, 1), (176, .iload_n 3, 1), (177, .invokevirtual 224, 3), (180, .ifCond .le 7, 3), (183, .iconst 1, 1), (184, .goto 4, 3), (187, .iconst 0, 1), (188, .istore 4, 2), (190, .iload 4, 2), (192, .aload_n 1, 1), (193, .getfield 228, 3), (196, .if_icmp .eq 7, 3), (199, .iconst 1, 1), (200, .goto 4, 3), (203, .iconst 0, 1), (204, .ireturn, 1)]
def X17 : MT := (k17, pl0, (some FieldType.boolean), false, [])
theorem k17_d : ∀ q ∈ k17, decode cX0_holds q.1 = .ok q.2 := by decide +kernel
theorem X17_ok : CodeOK (Mof mE17) X17 := ⟨code_1 k17_d (by decide +kernel), rfl, fun h => absurd h (by decide), Or.inl ⟨rfl, rfl⟩, thr_0 (by decide +kernel)⟩
def k18 : Code1 := [(0, .aload_n 1, 1), (1, .ifnull 10, 3), (4, .aload_n 1, 1), (5, .getfield 231, 3), (8, .ifnonnull 7, 3), (11, .iconst 0, 1), (12, .goto 16, 3), (15, .aload_n 0, 1), (16, .aload_n 1, 1), (17, .getfield 231, 3), (20, .aload_n 2, 1), (21, .iload_n 3, 1), (22, .invokevirtual 36, 3), (25, .getfield 25, 3), (28, .ireturn, 1)]
def X18 : MT := (k18, pl0, (some FieldType.int), false, [])
theorem k18_d : ∀ q ∈ k18, decode cX0_countOf q.1 = .ok q.2 := by decide +kernel
theorem X18_ok : CodeOK (Mof mE18) X18 := ⟨code_1 k18_d (by decide +kernel), rfl, fun h => absurd h (by decide), Or.inl ⟨rfl, rfl⟩, thr_0 (by decide +kernel)⟩
def k19 : Code1 := [(0, .aload_n 1, 1), (1, .ifnull 10, 3), (4, .aload_n 1, 1), (5, .getfield 231, 3), (8, .ifnonnull 5, 3), (11, .aconst_null, 1), (12, .areturn, 1), (13, .aload_n 0, 1), (14, .aload_n 1, 1), (15, .getfield 231, 3), (18, .aload_n 2, 1), (19, .iload_n 3, 1), (20, .invokevirtual 36, 3), (23, .astore 4, 2), (25, .aload 4, 2), (27, .getfield 25, 3), (30, .iconst 1, 1), (31, .if_icmp .ne 12, 3), (34, .aload 4, 2), (36, .iconst 0, 1), (37, .invokevirtual 21, 3), (40, .goto 4, 3), (43, .aconst_null, 1), (44, .areturn, 1)]
def X19 : MT := (k19, pl0, (some (FieldType.object "PathHouse$Node")), false, [])
theorem k19_d : ∀ q ∈ k19, decode cX0_onlyOf q.1 = .ok q.2 := by decide +kernel
theorem X19_ok : CodeOK (Mof mE19) X19 := ⟨code_1 k19_d (by decide +kernel), rfl, fun h => absurd h (by decide), Or.inl ⟨rfl, rfl⟩, thr_0 (by decide +kernel)⟩
def k20 : Code1 := [(0, .aload_n 1, 1), (1, .ifnonnull 5, 3), (4, .aconst_null, 1), (5, .areturn, 1), (6, .aload_n 1, 1), (7, .getfield 197, 3), (10, .tableswitch 79 3 6 #[30, 35, 43, 61], 30), (40, .aload_n 1, 1), (41, .getfield 235, 3), (44, .areturn, 1), (45, .aload_n 0, 1), (46, .aload_n 1, 1), (47, .aload_n 2, 1), (48, .iload_n 3, 1), (49, .invokevirtual 238, 3), (52, .areturn, 1), (53, .aload_n 0, 1), (54, .aload_n 1, 1), (55, .getfield 207, 3), (58, .aload_n 2, 1), (59, .iload_n 3, 1), (60, .invokevirtual 210, 3), (63, .aload_n 1, 1), (64, .getfield 235, 3), (67, .invokestatic 241, 3), (70, .areturn, 1), (71, .aload_n 0, 1), (72, .aload_n 1, 1), (73, .getfield 207, 3), (76, .aload_n 2, 1), (77, .iload_n 3, 1), (78, .invokevirtual 224, 3), (81, .aload_n 1, 1), (82, .getfield 235, 3), (85, .invokestatic 245, 3), (88, .areturn, 1), (89, .aload_n 0, 1), (90, .aload_n 1, 1), (91, .getfield 207, 3), (94, .aload_n 2, 1), (95, .iload_n 3, 1), (96, .invokevirtual 238, 3), (99, .areturn, 1)]
def X20 : MT := (k20, pl0, (some (FieldType.object "PathHouse$Node")), false, [])
theorem k20_d : ∀ q ∈ k20, decode cX0_valueOf q.1 = .ok q.2 := by decide +kernel
theorem X20_ok : CodeOK (Mof mE20) X20 := ⟨code_1 k20_d (by decide +kernel), rfl, fun h => absurd h (by decide), Or.inl ⟨rfl, rfl⟩, thr_0 (by decide +kernel)⟩
def k21 : Code1 := [(0, .aload_n 1, 1), (1, .ifnull 9, 3), (4, .aload_n 1, 1), (5, .iload_n 0, 1), (6, .i2l, 1), (7, .putfield 249, 3), (10, .aload_n 1, 1), (11, .areturn, 1)]
def X21 : MT := (k21, pl0, (some (FieldType.object "PathHouse$Node")), false, [])
theorem k21_d : ∀ q ∈ k21, decode cX0_reckoned q.1 = .ok q.2 := by decide +kernel
theorem X21_ok : CodeOK (Mof mE21) X21 := ⟨code_1 k21_d (by decide +kernel), rfl, fun h => absurd h (by decide), Or.inl ⟨rfl, rfl⟩, thr_0 (by decide +kernel)⟩
def k22 : Code1 := [(0, .aload_n 0, 1), (1, .ifnull 11, 3), (4, .aload_n 0, 1), (5, .getfield 169, 3), (8, .iconst 4, 1), (9, .if_icmp .ge 7, 3), (12, .aconst_null, 1), (13, .goto 11, 3), (16, .aload_n 0, 1), (17, .invokevirtual 252, 3), (20, .aload_n 1, 1), (21, .invokestatic 245, 3), (24, .areturn, 1)]
def X22 : MT := (k22, pl0, (some (FieldType.object "PathHouse$Node")), false, [])
theorem k22_d : ∀ q ∈ k22, decode cX0_lengthOf q.1 = .ok q.2 := by decide +kernel
theorem X22_ok : CodeOK (Mof mE22) X22 := ⟨code_1 k22_d (by decide +kernel), rfl, fun h => absurd h (by decide), Or.inl ⟨rfl, rfl⟩, thr_0 (by decide +kernel)⟩
def k23 : Code1 := [(0, .iload_n 1, 1), (1, .tableswitch 98 0 4 #[35, 44, 61, 67, 92], 35), (36, .aload_n 0, 1), (37, .aload_n 2, 1), (38, .aload_n 3, 1), (39, .bipush 30, 2), (41, .invokevirtual 253, 3), (44, .ireturn, 1), (45, .aload_n 0, 1), (46, .aload_n 2, 1), (47, .aload_n 3, 1), (48, .bipush 30, 2), (50, .invokevirtual 253, 3), (53, .ifCond .ne 7, 3), (56, .iconst 1, 1), (57, .goto 4, 3), (60, .iconst 0, 1), (61, .ireturn, 1), (62, .aload_n 2, 1), (63, .aload_n 3, 1), (64, .invokestatic 257, 3), (67, .ireturn, 1), (68, .aload_n 2, 1), (69, .aload_n 3, 1), (70, .invokestatic 257, 3), (73, .ifCond .ne 14, 3), (76, .aload_n 0, 1), (77, .aload_n 2, 1), (78, .aload_n 3, 1), (79, .bipush 30, 2), (81, .invokevirtual 253, 3), (84, .ifCond .eq 7, 3), (87, .iconst 1, 1), (88, .goto 4, 3), (91, .iconst 0, 1), (92, .ireturn, 1), (93, .aload_n 3, 1), (94, .aload_n 2, 1), (95, .invokestatic 257, 3), (98, .ireturn, 1), (99, .aload_n 3, 1), (100, .aload_n 2, 1), (101, .invokestatic 257, 3), (104, .ifCond .ne 14, 3), (107, .aload_n 0, 1), (108, .aload_n 3, 1), (109, .aload_n 2, 1), (110, .bipush 30, 2), (112, .invokevirtual 253, 3), (115, .ifCond .eq 7, 3), (118, .iconst 1, 1), (119, .goto 4, 3), (122, .iconst 0, 1), (123, .ireturn, 1)]
def X23 : MT := (k23, pl0, (some FieldType.boolean), false, [])
theorem k23_d : ∀ q ∈ k23, decode cX0_compares q.1 = .ok q.2 := by decide +kernel
theorem X23_ok : CodeOK (Mof mE23) X23 := ⟨code_1 k23_d (by decide +kernel), rfl, fun h => absurd h (by decide), Or.inl ⟨rfl, rfl⟩, thr_0 (by decide +kernel)⟩
def k24 : Code1 := [(0, .aload_n 0, 1), (1, .ifnull 18, 3), (4, .aload_n 1, 1), (5, .ifnull 14, 3), (8, .aload_n 0, 1), (9, .getfield 169, 3), (12, .aload_n 1, 1), (13, .getfield 169, 3), (16, .if_icmp .eq 5, 3), (19, .iconst 0, 1), (20, .ireturn, 1), (21, .aload_n 0, 1), (22, .getfield 169, 3), (25, .iconst 3, 1), (26, .if_icmp .ne 23, 3), (29, .aload_n 0, 1), (30, .getfield 249, 3), (33, .aload_n 1, 1), (34, .getfield 249, 3), (37, .lcmp, 1), (38, .ifCond .ge 7, 3), (41, .iconst 1, 1), (42, .goto 18, 3), (45, .iconst 0, 1), (46, .goto 14, 3), (49, .aload_n 0, 1), (50, .getfield 261, 3), (53, .aload_n 1, 1), (54, .getfield 261, 3), (57, .invokestatic 264, 3), (60, .ireturn, 1)]
def X24 : MT := (k24, pl0, (some FieldType.boolean), false, [])
theorem k24_d : ∀ q ∈ k24, decode cX0_isLess q.1 = .ok q.2 := by decide +kernel
theorem X24_ok : CodeOK (Mof mE24) X24 := ⟨code_1 k24_d (by decide +kernel), rfl, fun h => absurd h (by decide), Or.inl ⟨rfl, rfl⟩, thr_0 (by decide +kernel)⟩
def k25 : Code1 := [(0, .aload_n 1, 1), (1, .ifnull 7, 3), (4, .aload_n 2, 1), (5, .ifnonnull 17, 3), (8, .aload_n 1, 1), (9, .ifnonnull 11, 3), (12, .aload_n 2, 1), (13, .ifnonnull 7, 3), (16, .iconst 1, 1), (17, .goto 4, 3), (20, .iconst 0, 1), (21, .ireturn, 1), (22, .aload_n 0, 1), (23, .invokevirtual 110, 3), (26, .aload_n 1, 1), (27, .getfield 169, 3), (30, .aload_n 2, 1), (31, .getfield 169, 3), (34, .if_icmp .ne 18, 3), (37, .aload_n 1, 1), (38, .invokevirtual 159, 3), (41, .aload_n 2, 1), (42, .invokevirtual 159, 3), (45, .if_icmp .ne 7, 3), (48, .iload_n 3, 1), (49, .ifCond .gt 5, 3), (52, .iconst 0, 1), (53, .ireturn, 1), (54, .aload_n 1, 1), (55, .getfield 169, 3), (58, .iconst 3, 1), (59, .if_icmp .ne 21, 3), (62, .aload_n 1, 1), (63, .getfield 249, 3), (66, .aload_n 2, 1), (67, .getfield 249, 3), (70, .lcmp, 1), (71, .ifCond .ne 7, 3), (74, .iconst 1, 1), (75, .goto 4, 3), (78, .iconst 0, 1), (79, .ireturn, 1), (80, .aload_n 1, 1), (81, .getfield 169, 3), (84, .iconst 4, 1), (85, .if_icmp .ne 15, 3), (88, .aload_n 1, 1), (89, .getfield 261, 3), (92, .aload_n 2, 1), (93, .getfield 261, 3), (96, .invokestatic 268, 3), (99, .ireturn, 1), (100, .iconst 1, 1), (101, .istore 4, 2), (103, .iconst 0, 1), (104, .istore 5, 2), (106, .iload 5, 2), (108, .aload_n 1, 1), (109, .invokevirtual 159, 3), (112, .if_icmp .ge 78, 3), (115, .iload 4, 2), (117, .ifCond .eq 73, 3), (120, .aload_n 1, 1), (121, .iload 5, 2), (123, .i2l, 1), (124, .invokevirtual 162, 3), (127, .astore 6, 2), (129, .aload_n 1, 1), (130, .getfield 169, 3), (133, .iconst 5, 1), (134, .if_icmp .ne 13, 3), (137, .aload_n 2, 1), (138, .iload 5, 2), (140, .i2l, 1), (141, .invokevirtual 162, 3), (144, .goto 12, 3), (147, .aload_n 2, 1), (148, .aload 6, 2), (150, .getfield 271, 3), (153, .invokevirtual 132, 3), (156, .astore 7, 2), (158, .aload 7, 2), (160, .ifnull 21, 3), (163, .aload_n 0, 1), (164, .aload 6, 2), (166, .aload 7, 2), (168, .iload_n 3, 1), (169, .iconst 1, 1), (170, .isub, 1), (171, .invokevirtual 253, 3), (174, .ifCond .eq 7, 3), (177, .iconst 1, 1), (178, .goto 4, 3), (181, .iconst 0, 1), (182, .istore 4, 2), (184, .iinc 5 1, 3), (187, .goto (-81), 3), (190, .iload 4, 2), (192, .ireturn, 1)]
def X25 : MT := (k25, pl0, (some FieldType.boolean), false, [])
theorem k25_d : ∀ q ∈ k25, decode cX0_isEqual q.1 = .ok q.2 := by decide +kernel
theorem X25_ok : CodeOK (Mof mE25) X25 := ⟨code_1 k25_d (by decide +kernel), rfl, fun h => absurd h (by decide), Or.inl ⟨rfl, rfl⟩, thr_0 (by decide +kernel)⟩
def k26 : Code1 := [(0, .aload_n 0, 1), (1, .invokespecial 3, 3), (4, .aload_n 0, 1), (5, .iconst (-1), 1), (6, .putfield 9, 3), (9, .aload_n 0, 1), (10, .iload_n 1, 1), (11, .putfield 15, 3), (14, .aload_n 0, 1), (15, .aload_n 2, 1), (16, .putfield 18, 3), (19, .aload_n 0, 1), (20, .iload_n 3, 1), (21, .putfield 22, 3), (24, .aload_n 0, 1), (25, .iload 4, 2), (27, .putfield 25, 3), (30, .aload_n 0, 1), (31, .iload 4, 2), (33, .putfield 28, 3), (36, .aload_n 0, 1), (37, .iload_n 1, 1), (38, .iconst 5, 1), (39, .if_icmp .eq 9, 3), (42, .iload_n 1, 1), (43, .bipush 6, 2), (45, .if_icmp .ne 13, 3), (48, .new 31, 3), (51, .dup, 1), (52, .invokespecial 33, 3), (55, .goto 4, 3), (58, .aconst_null, 1), (59, .putfield 34, 3), (62, .return_, 1)]
def X26 : MT := (k26, pl1, none, true, [])
theorem k26_d : ∀ q ∈ k26, decode cX1_init q.1 = .ok q.2 := by decide +kernel
theorem X26_ok : CodeOK (Mof mE26) X26 := ⟨code_1 k26_d (by decide +kernel), rfl, fun _ => rfl, Or.inl ⟨rfl, rfl⟩, thr_0 (by decide +kernel)⟩
def k27 : Code1 := [(0, .aload_n 0, 1), (1, .getfield 34, 3), (4, .ifnonnull 7, 3), (7, .iconst 0, 1), (8, .goto 10, 3), (11, .aload_n 0, 1), (12, .getfield 34, 3), (15, .invokevirtual 38, 3), (18, .ireturn, 1)]
def X27 : MT := (k27, pl1, (some FieldType.int), false, [])
theorem k27_d : ∀ q ∈ k27, decode cX1_kidCount q.1 = .ok q.2 := by decide +kernel
theorem X27_ok : CodeOK (Mof mE27) X27 := ⟨code_1 k27_d (by decide +kernel), rfl, fun h => absurd h (by decide), Or.inl ⟨rfl, rfl⟩, thr_0 (by decide +kernel)⟩
def k28 : Code1 := [(0, .aload_n 0, 1), (1, .getfield 34, 3), (4, .ifnull 22, 3), (7, .lload_n 1, 1), (8, .lconst 0, 1), (9, .lcmp, 1), (10, .ifCond .lt 16, 3), (13, .lload_n 1, 1), (14, .aload_n 0, 1), (15, .getfield 34, 3), (18, .invokevirtual 38, 3), (21, .i2l, 1), (22, .lcmp, 1), (23, .ifCond .lt 7, 3), (26, .aconst_null, 1), (27, .goto 15, 3), (30, .aload_n 0, 1), (31, .getfield 34, 3), (34, .lload_n 1, 1), (35, .l2i, 1), (36, .invokevirtual 42, 3), (39, .checkcast 10, 3), (42, .areturn, 1)]
def X28 : MT := (k28, pl1, (some (FieldType.object "PathHouse$Node")), false, [])
theorem k28_d : ∀ q ∈ k28, decode cX1_kid q.1 = .ok q.2 := by decide +kernel
theorem X28_ok : CodeOK (Mof mE28) X28 := ⟨code_1 k28_d (by decide +kernel), rfl, fun h => absurd h (by decide), Or.inl ⟨rfl, rfl⟩, thr_0 (by decide +kernel)⟩
def k29 : Code1 := [(0, .aload_n 0, 1), (1, .getfield 46, 3), (4, .ifnull 11, 3), (7, .aload_n 0, 1), (8, .getfield 46, 3), (11, .arraylength, 1), (12, .goto 7, 3), (15, .aload_n 0, 1), (16, .invokevirtual 50, 3), (19, .ireturn, 1)]
def X29 : MT := (k29, pl1, (some FieldType.int), false, [])
theorem k29_d : ∀ q ∈ k29, decode cX1_size q.1 = .ok q.2 := by decide +kernel
theorem X29_ok : CodeOK (Mof mE29) X29 := ⟨code_1 k29_d (by decide +kernel), rfl, fun h => absurd h (by decide), Or.inl ⟨rfl, rfl⟩, thr_0 (by decide +kernel)⟩
def k30 : Code1 := [(0, .aload_n 0, 1), (1, .getfield 34, 3), (4, .ifnull 7, 3), (7, .aload_n 1, 1), (8, .ifnonnull 4, 3), (11, .return_, 1), (12, .aload_n 1, 1), (13, .aload_n 2, 1), (14, .putfield 53, 3), (17, .aload_n 0, 1), (18, .getfield 15, 3), (21, .iconst 5, 1), (22, .if_icmp .ne 14, 3), (25, .aload_n 1, 1), (26, .aload_n 0, 1), (27, .getfield 34, 3), (30, .invokevirtual 38, 3), (33, .putfield 9, 3), (36, .aload_n 0, 1), (37, .getfield 34, 3), (40, .aload_n 1, 1), (41, .invokevirtual 56, 3), (44, .pop, 1), (45, .return_, 1)]
def X30 : MT := (k30, pl1, none, false, [])
theorem k30_d : ∀ q ∈ k30, decode cX1_adopt q.1 = .ok q.2 := by decide +kernel
theorem X30_ok : CodeOK (Mof mE30) X30 := ⟨code_1 k30_d (by decide +kernel), rfl, fun h => absurd h (by decide), Or.inl ⟨rfl, rfl⟩, thr_0 (by decide +kernel)⟩
def k31 : Code1 := [(0, .aload_n 0, 1), (1, .getfield 15, 3), (4, .bipush 6, 2), (6, .if_icmp .ne 10, 3), (9, .aload_n 0, 1), (10, .getfield 34, 3), (13, .ifnonnull 5, 3), (16, .aconst_null, 1), (17, .areturn, 1), (18, .iconst 0, 1), (19, .istore_n 2, 1), (20, .iload_n 2, 1), (21, .aload_n 0, 1), (22, .getfield 34, 3), (25, .invokevirtual 38, 3), (28, .if_icmp .ge 34, 3), (31, .aload_n 0, 1), (32, .getfield 34, 3), (35, .iload_n 2, 1), (36, .invokevirtual 42, 3), (39, .checkcast 10, 3), (42, .astore_n 3, 1), (43, .aload_n 3, 1), (44, .getfield 53, 3), (47, .aload_n 1, 1), (48, .invokestatic 60, 3), (51, .ifCond .eq 5, 3), (54, .aload_n 3, 1), (55, .areturn, 1), (56, .iinc 2 1, 3), (59, .goto (-39), 3), (62, .aconst_null, 1), (63, .areturn, 1)]
def X31 : MT := (k31, pl1, (some (FieldType.object "PathHouse$Node")), false, [])
theorem k31_d : ∀ q ∈ k31, decode cX1_member q.1 = .ok q.2 := by decide +kernel
theorem X31_ok : CodeOK (Mof mE31) X31 := ⟨code_1 k31_d (by decide +kernel), rfl, fun h => absurd h (by decide), Or.inl ⟨rfl, rfl⟩, thr_0 (by decide +kernel)⟩
def k32 : Code1 := [(0, .aload_n 0, 1), (1, .getfield 15, 3), (4, .iconst 5, 1), (5, .if_icmp .eq 5, 3), (8, .aconst_null, 1), (9, .areturn, 1), (10, .aload_n 0, 1), (11, .lload_n 1, 1), (12, .lconst 0, 1), (13, .lcmp, 1), (14, .ifCond .ge 13, 3), (17, .lload_n 1, 1), (18, .aload_n 0, 1), (19, .invokevirtual 50, 3), (22, .i2l, 1), (23, .ladd, 1), (24, .goto 4, 3), (27, .lload_n 1, 1), (28, .invokevirtual 64, 3), (31, .areturn, 1)]
def X32 : MT := (k32, pl1, (some (FieldType.object "PathHouse$Node")), false, [])
theorem k32_d : ∀ q ∈ k32, decode cX1_element q.1 = .ok q.2 := by decide +kernel
theorem X32_ok : CodeOK (Mof mE32) X32 := ⟨code_1 k32_d (by decide +kernel), rfl, fun h => absurd h (by decide), Or.inl ⟨rfl, rfl⟩, thr_0 (by decide +kernel)⟩
def k33 : Code1 := [(0, .iconst 0, 1), (1, .istore_n 1, 1), (2, .aload_n 0, 1), (3, .astore_n 2, 1), (4, .aload_n 2, 1), (5, .ifnull 31, 3), (8, .aload_n 2, 1), (9, .getfield 25, 3), (12, .aload_n 0, 1), (13, .getfield 28, 3), (16, .if_icmp .gt 20, 3), (19, .iload_n 1, 1), (20, .aload_n 2, 1), (21, .getfield 22, 3), (24, .invokestatic 68, 3), (27, .istore_n 1, 1), (28, .aload_n 2, 1), (29, .getfield 74, 3), (32, .astore_n 2, 1), (33, .goto (-29), 3), (36, .iload_n 1, 1), (37, .ireturn, 1)]
def X33 : MT := (k33, pl1, (some FieldType.int), false, [])
theorem k33_d : ∀ q ∈ k33, decode cX1_deepest q.1 = .ok q.2 := by decide +kernel
theorem X33_ok : CodeOK (Mof mE33) X33 := ⟨code_1 k33_d (by decide +kernel), rfl, fun h => absurd h (by decide), Or.inl ⟨rfl, rfl⟩, thr_0 (by decide +kernel)⟩
def k34 : Code1 := [(0, .aload_n 0, 1), (1, .invokespecial 3, 3), (4, .aload_n 0, 1), (5, .sipush 2400, 3), (8, .newarray .byte, 2), (10, .putfield 9, 3), (13, .return_, 1)]
def X34 : MT := (k34, pl2, none, true, [])
theorem k34_d : ∀ q ∈ k34, decode cX2_init q.1 = .ok q.2 := by decide +kernel
theorem X34_ok : CodeOK (Mof mE34) X34 := ⟨code_1 k34_d (by decide +kernel), rfl, fun _ => rfl, Or.inl ⟨rfl, rfl⟩, thr_0 (by decide +kernel)⟩
def k35 : Code1 := [(0, .aload_n 0, 1), (1, .iconst 0, 1), (2, .putfield 15, 3), (5, .return_, 1)]
def X35 : MT := (k35, pl2, none, false, [])
theorem k35_d : ∀ q ∈ k35, decode cX2_clear q.1 = .ok q.2 := by decide +kernel
theorem X35_ok : CodeOK (Mof mE35) X35 := ⟨code_1 k35_d (by decide +kernel), rfl, fun h => absurd h (by decide), Or.inl ⟨rfl, rfl⟩, thr_0 (by decide +kernel)⟩
def k36 : Code1 := [(0, .iload_n 1, 1), (1, .ifCond .lt 24, 3), (4, .iload_n 1, 1), (5, .aload_n 0, 1), (6, .getfield 15, 3), (9, .if_icmp .ge 16, 3), (12, .iload_n 1, 1), (13, .aload_n 0, 1), (14, .getfield 9, 3), (17, .arraylength, 1), (18, .if_icmp .ge 7, 3), (21, .iconst 1, 1), (22, .goto 4, 3), (25, .iconst 0, 1), (26, .ireturn, 1)]
def X36 : MT := (k36, pl2, (some FieldType.boolean), false, [])
theorem k36_d : ∀ q ∈ k36, decode cX2_has q.1 = .ok q.2 := by decide +kernel
theorem X36_ok : CodeOK (Mof mE36) X36 := ⟨code_1 k36_d (by decide +kernel), rfl, fun h => absurd h (by decide), Or.inl ⟨rfl, rfl⟩, thr_0 (by decide +kernel)⟩
def k37 : Code1 := [(0, .aload_n 0, 1), (1, .iload_n 1, 1), (2, .invokevirtual 19, 3), (5, .ifCond .eq 16, 3), (8, .aload_n 0, 1), (9, .getfield 9, 3), (12, .iload_n 1, 1), (13, .baload, 1), (14, .sipush 255, 3), (17, .iand, 1), (18, .goto 4, 3), (21, .iconst (-1), 1), (22, .ireturn, 1)]
def X37 : MT := (k37, pl2, (some FieldType.int), false, [])
theorem k37_d : ∀ q ∈ k37, decode cX2_get q.1 = .ok q.2 := by decide +kernel
theorem X37_ok : CodeOK (Mof mE37) X37 := ⟨code_1 k37_d (by decide +kernel), rfl, fun h => absurd h (by decide), Or.inl ⟨rfl, rfl⟩, thr_0 (by decide +kernel)⟩
def k38 : Code1 := [(0, .aload_n 0, 1), (1, .getfield 15, 3), (4, .aload_n 0, 1), (5, .getfield 9, 3), (8, .arraylength, 1), (9, .if_icmp .ge 24, 3), (12, .aload_n 0, 1), (13, .getfield 9, 3), (16, .aload_n 0, 1), (17, .getfield 15, 3), (20, .iload_n 1, 1), (21, .i2b, 1), (22, .bastore, 1), (23, .aload_n 0, 1), (24, .dup, 1), (25, .getfield 15, 3), (28, .iconst 1, 1), (29, .iadd, 1), (30, .putfield 15, 3), (33, .return_, 1)]
def X38 : MT := (k38, pl2, none, false, [])
theorem k38_d : ∀ q ∈ k38, decode cX2_put q.1 = .ok q.2 := by decide +kernel
theorem X38_ok : CodeOK (Mof mE38) X38 := ⟨code_1 k38_d (by decide +kernel), rfl, fun h => absurd h (by decide), Or.inl ⟨rfl, rfl⟩, thr_0 (by decide +kernel)⟩
def k39 : Code1 := [(0, .iconst 0, 1), (1, .istore_n 2, 1), (2, .iload_n 2, 1), (3, .aload_n 1, 1), (4, .invokevirtual 23, 3), (7, .if_icmp .ge 18, 3), (10, .aload_n 0, 1), (11, .aload_n 1, 1), (12, .iload_n 2, 1), (13, .invokevirtual 29, 3), (16, .invokevirtual 33, 3), (19, .iinc 2 1, 3), (22, .goto (-20), 3), (25, .return_, 1)]
def X39 : MT := (k39, pl2, none, false, [])
theorem k39_d : ∀ q ∈ k39, decode cX2_putWord q.1 = .ok q.2 := by decide +kernel
theorem X39_ok : CodeOK (Mof mE39) X39 := ⟨code_1 k39_d (by decide +kernel), rfl, fun h => absurd h (by decide), Or.inl ⟨rfl, rfl⟩, thr_0 (by decide +kernel)⟩
def k40 : Code1 := [(0, .lload_n 1, 1), (1, .lconst 0, 1), (2, .lcmp, 1), (3, .ifCond .ge 9, 3), (6, .aload_n 0, 1), (7, .bipush 45, 2), (9, .invokevirtual 33, 3), (12, .lload_n 1, 1), (13, .invokestatic 37, 3), (16, .lstore_n 3, 1), (17, .lconst 1, 1), (18, .lstore 5, 2), (20, .iconst 0, 1), (21, .istore 7, 2), (23, .iload 7, 2), (25, .bipush 17, 2), (27, .if_icmp .ge 28, 3), (30, .lload_n 3, 1), (31, .lload 5, 2), (33, .ldiv, 1), (34, .ldc2_w 43, 3), (37, .lcmp, 1), (38, .ifCond .lt 17, 3), (41, .lload 5, 2), (43, .ldc2_w 43, 3), (46, .lmul, 1), (47, .lstore 5, 2), (49, .iinc 7 1, 3), (52, .goto (-29), 3), (55, .lload 5, 2), (57, .lconst 0, 1), (58, .lcmp, 1), (59, .ifCond .le 31, 3), (62, .aload_n 0, 1), (63, .ldc2_w 45, 3), (66, .lload_n 3, 1), (67, .lload 5, 2), (69, .ldiv, 1), (70, .ldc2_w 43, 3), (73, .lrem, 1), (74, .ladd, 1), (75, .l2i, 1), (76, .invokevirtual 33, 3), (79, .lload 5, 2), (81, .ldc2_w 43, 3), (84, .ldiv, 1), (85, .lstore 5, 2), (87, .goto (-32), 3), (90, .return_, 1)]
def X40 : MT := (k40, pl2, none, false, [])
theorem k40_d : ∀ q ∈ k40, decode cX2_putWhole q.1 = .ok q.2 := by decide +kernel
theorem X40_ok : CodeOK (Mof mE40) X40 := ⟨code_1 k40_d (by decide +kernel), rfl, fun h => absurd h (by decide), Or.inl ⟨rfl, rfl⟩, thr_0 (by decide +kernel)⟩
def k41 : Code1 := [(0, .aload_n 0, 1), (1, .iload_n 2, 1), (2, .invokevirtual 33, 3), (5, .iconst 0, 1), (6, .istore_n 3, 1), (7, .aload_n 1, 1), (8, .ifnull 70, 3), (11, .iload_n 3, 1), (12, .aload_n 1, 1), (13, .arraylength, 1), (14, .if_icmp .ge 64, 3), (17, .aload_n 1, 1), (18, .iload_n 3, 1), (19, .iaload, 1), (20, .istore 4, 2), (22, .iload 4, 2), (24, .iload_n 2, 1), (25, .if_icmp .eq 10, 3), (28, .iload 4, 2), (30, .bipush 92, 2), (32, .if_icmp .ne 18, 3), (35, .aload_n 0, 1), (36, .bipush 92, 2), (38, .invokevirtual 33, 3), (41, .aload_n 0, 1), (42, .iload 4, 2), (44, .invokevirtual 33, 3), (47, .goto 25, 3), (50, .iload 4, 2), (52, .bipush 32, 2), (54, .if_icmp .ge 12, 3), (57, .aload_n 0, 1), (58, .iload 4, 2), (60, .invokevirtual 47, 3), (63, .goto 9, 3), (66, .aload_n 0, 1), (67, .iload 4, 2), (69, .invokevirtual 50, 3), (72, .iinc 3 1, 3), (75, .goto (-68), 3), (78, .aload_n 0, 1), (79, .iload_n 2, 1), (80, .invokevirtual 33, 3), (83, .return_, 1)]
def X41 : MT := (k41, pl2, none, false, [])
theorem k41_d : ∀ q ∈ k41, decode cX2_putQuoted q.1 = .ok q.2 := by decide +kernel
theorem X41_ok : CodeOK (Mof mE41) X41 := ⟨code_1 k41_d (by decide +kernel), rfl, fun h => absurd h (by decide), Or.inl ⟨rfl, rfl⟩, thr_0 (by decide +kernel)⟩
def k42 : Code1 := [(0, .aload_n 0, 1), (1, .bipush 92, 2), (3, .invokevirtual 33, 3), (6, .iload_n 1, 1), (7, .tableswitch 82 8 13 #[37, 46, 55, 82, 64, 73], 37), (44, .aload_n 0, 1), (45, .bipush 98, 2), (47, .invokevirtual 33, 3), (50, .goto 88, 3), (53, .aload_n 0, 1), (54, .bipush 116, 2), (56, .invokevirtual 33, 3), (59, .goto 79, 3), (62, .aload_n 0, 1), (63, .bipush 110, 2), (65, .invokevirtual 33, 3), (68, .goto 70, 3), (71, .aload_n 0, 1), (72, .bipush 102, 2), (74, .invokevirtual 33, 3), (77, .goto 61, 3), (80, .aload_n 0, 1), (81, .bipush 114, 2), (83, .invokevirtual 33, 3), (86, .goto 52, 3), (89, .aload_n 0, 1), (90, .ldc 53, 2), (92, .invokevirtual 55, 3), (95, .aload_n 0, 1), (96, .bipush 48, 2), (98, .iload_n 1, 1), (99, .iconst 4, 1), (100, .ishr, 1), (101, .iadd, 1), (102, .invokevirtual 33, 3), (105, .aload_n 0, 1), (106, .iload_n 1, 1), (107, .bipush 15, 2), (109, .iand, 1), (110, .bipush 10, 2), (112, .if_icmp .ge 13, 3), (115, .bipush 48, 2), (117, .iload_n 1, 1), (118, .bipush 15, 2), (120, .iand, 1), (121, .iadd, 1), (122, .goto 13, 3), (125, .bipush 97, 2), (127, .iload_n 1, 1), (128, .bipush 15, 2), (130, .iand, 1), (131, .iadd, 1), (132, .bipush 10, 2), (134, .isub, 1), (135, .invokevirtual 33, 3), (138, .return_, 1)]
def X42 : MT := (k42, pl2, none, false, [])
theorem k42_d : ∀ q ∈ k42, decode cX2_putControl q.1 = .ok q.2 := by decide +kernel
theorem X42_ok : CodeOK (Mof mE42) X42 := ⟨code_1 k42_d (by decide +kernel), rfl, fun h => absurd h (by decide), Or.inl ⟨rfl, rfl⟩, thr_0 (by decide +kernel)⟩
def k43 : Code1 := [(0, .iload_n 1, 1), (1, .sipush 128, 3), (4, .if_icmp .ge 11, 3), (7, .aload_n 0, 1), (8, .iload_n 1, 1), (9, .invokevirtual 33, 3), (12, .goto 139, 3), (15, .iload_n 1, 1), (16, .sipush 2048, 3), (19, .if_icmp .ge 30, 3), (22, .aload_n 0, 1), (23, .sipush 192, 3), (26, .iload_n 1, 1), (27, .bipush 6, 2), (29, .ishr, 1), (30, .ior, 1), (31, .invokevirtual 33, 3), (34, .aload_n 0, 1), (35, .sipush 128, 3), (38, .iload_n 1, 1), (39, .bipush 63, 2), (41, .iand, 1), (42, .ior, 1), (43, .invokevirtual 33, 3), (46, .goto 105, 3), (49, .iload_n 1, 1), (50, .ldc 59, 2), (52, .if_icmp .ge 45, 3), (55, .aload_n 0, 1), (56, .sipush 224, 3), (59, .iload_n 1, 1), (60, .bipush 12, 2), (62, .ishr, 1), (63, .ior, 1), (64, .invokevirtual 33, 3), (67, .aload_n 0, 1), (68, .sipush 128, 3), (71, .iload_n 1, 1), (72, .bipush 6, 2), (74, .ishr, 1), (75, .bipush 63, 2), (77, .iand, 1), (78, .ior, 1), (79, .invokevirtual 33, 3), (82, .aload_n 0, 1), (83, .sipush 128, 3), (86, .iload_n 1, 1), (87, .bipush 63, 2), (89, .iand, 1), (90, .ior, 1), (91, .invokevirtual 33, 3), (94, .goto 57, 3), (97, .aload_n 0, 1), (98, .sipush 240, 3), (101, .iload_n 1, 1), (102, .bipush 18, 2), (104, .ishr, 1), (105, .ior, 1), (106, .invokevirtual 33, 3), (109, .aload_n 0, 1), (110, .sipush 128, 3), (113, .iload_n 1, 1), (114, .bipush 12, 2), (116, .ishr, 1), (117, .bipush 63, 2), (119, .iand, 1), (120, .ior, 1), (121, .invokevirtual 33, 3), (124, .aload_n 0, 1), (125, .sipush 128, 3), (128, .iload_n 1, 1), (129, .bipush 6, 2), (131, .ishr, 1), (132, .bipush 63, 2), (134, .iand, 1), (135, .ior, 1), (136, .invokevirtual 33, 3), (139, .aload_n 0, 1), (140, .sipush 128, 3), (143, .iload_n 1, 1), (144, .bipush 63, 2), (146, .iand, 1), (147, .ior, 1), (148, .invokevirtual 33, 3), (151, .return_, 1)]
def X43 : MT := (k43, pl2, none, false, [])
theorem k43_d : ∀ q ∈ k43, decode cX2_putCode q.1 = .ok q.2 := by decide +kernel
theorem X43_ok : CodeOK (Mof mE43) X43 := ⟨code_1 k43_d (by decide +kernel), rfl, fun h => absurd h (by decide), Or.inl ⟨rfl, rfl⟩, thr_0 (by decide +kernel)⟩
def k44 : Code1 := [(0, .aload_n 1, 1), (1, .getfield 60, 3), (4, .ifnull 7, 3), (7, .iload_n 2, 1), (8, .ifCond .gt 10, 3), (11, .aload_n 0, 1), (12, .bipush 36, 2), (14, .invokevirtual 33, 3), (17, .return_, 1), (18, .aload_n 0, 1), (19, .aload_n 1, 1), (20, .getfield 60, 3), (23, .iload_n 2, 1), (24, .iconst 1, 1), (25, .isub, 1), (26, .invokevirtual 66, 3), (29, .aload_n 0, 1), (30, .bipush 91, 2), (32, .invokevirtual 33, 3), (35, .aload_n 1, 1), (36, .getfield 70, 3), (39, .iconst (-1), 1), (40, .if_icmp .ne 16, 3), (43, .aload_n 0, 1), (44, .aload_n 1, 1), (45, .getfield 73, 3), (48, .bipush 39, 2), (50, .invokevirtual 77, 3), (53, .goto 12, 3), (56, .aload_n 0, 1), (57, .aload_n 1, 1), (58, .getfield 70, 3), (61, .i2l, 1), (62, .invokevirtual 81, 3), (65, .aload_n 0, 1), (66, .bipush 93, 2), (68, .invokevirtual 33, 3), (71, .return_, 1)]
def X44 : MT := (k44, pl2, none, false, [])
theorem k44_d : ∀ q ∈ k44, decode cX2_putSteps q.1 = .ok q.2 := by decide +kernel
theorem X44_ok : CodeOK (Mof mE44) X44 := ⟨code_1 k44_d (by decide +kernel), rfl, fun h => absurd h (by decide), Or.inl ⟨rfl, rfl⟩, thr_0 (by decide +kernel)⟩
end
section
def k45 : Code1 := [(0, .aload_n 1, 1), (1, .getfield 85, 3), (4, .tableswitch 87 0 4 #[36, 45, 54, 63, 74], 36), (40, .aload_n 0, 1), (41, .ldc 88, 2), (43, .invokevirtual 55, 3), (46, .goto 51, 3), (49, .aload_n 0, 1), (50, .ldc 90, 2), (52, .invokevirtual 55, 3), (55, .goto 42, 3), (58, .aload_n 0, 1), (59, .ldc 92, 2), (61, .invokevirtual 55, 3), (64, .goto 33, 3), (67, .aload_n 0, 1), (68, .aload_n 1, 1), (69, .getfield 94, 3), (72, .invokevirtual 81, 3), (75, .goto 22, 3), (78, .aload_n 0, 1), (79, .aload_n 1, 1), (80, .getfield 98, 3), (83, .bipush 34, 2), (85, .invokevirtual 77, 3), (88, .goto 9, 3), (91, .aload_n 0, 1), (92, .aload_n 1, 1), (93, .iload_n 2, 1), (94, .invokevirtual 101, 3), (97, .return_, 1)]
def X45 : MT := (k45, pl2, none, false, [])
theorem k45_d : ∀ q ∈ k45, decode cX2_putValue q.1 = .ok q.2 := by decide +kernel
theorem X45_ok : CodeOK (Mof mE45) X45 := ⟨code_1 k45_d (by decide +kernel), rfl, fun h => absurd h (by decide), Or.inl ⟨rfl, rfl⟩, thr_0 (by decide +kernel)⟩
def k46 : Code1 := [(0, .aload_n 0, 1), (1, .aload_n 1, 1), (2, .getfield 85, 3), (5, .iconst 5, 1), (6, .if_icmp .ne 8, 3), (9, .bipush 91, 2), (11, .goto 5, 3), (14, .bipush 123, 2), (16, .invokevirtual 33, 3), (19, .iconst 0, 1), (20, .istore_n 3, 1), (21, .iload_n 3, 1), (22, .aload_n 1, 1), (23, .invokevirtual 104, 3), (26, .if_icmp .ge 66, 3), (29, .iload_n 2, 1), (30, .ifCond .le 62, 3), (33, .aload_n 1, 1), (34, .iload_n 3, 1), (35, .i2l, 1), (36, .invokevirtual 107, 3), (39, .astore 4, 2), (41, .iload_n 3, 1), (42, .ifCond .le 9, 3), (45, .aload_n 0, 1), (46, .bipush 44, 2), (48, .invokevirtual 33, 3), (51, .aload_n 1, 1), (52, .getfield 85, 3), (55, .bipush 6, 2), (57, .if_icmp .ne 20, 3), (60, .aload_n 0, 1), (61, .aload 4, 2), (63, .getfield 73, 3), (66, .bipush 34, 2), (68, .invokevirtual 77, 3), (71, .aload_n 0, 1), (72, .bipush 58, 2), (74, .invokevirtual 33, 3), (77, .aload_n 0, 1), (78, .aload 4, 2), (80, .iload_n 2, 1), (81, .iconst 1, 1), (82, .isub, 1), (83, .invokevirtual 111, 3), (86, .iinc 3 1, 3), (89, .goto (-68), 3), (92, .aload_n 0, 1), (93, .aload_n 1, 1), (94, .getfield 85, 3), (97, .iconst 5, 1), (98, .if_icmp .ne 8, 3), (101, .bipush 93, 2), (103, .goto 5, 3), (106, .bipush 125, 2), (108, .invokevirtual 33, 3), (111, .return_, 1)]
def X46 : MT := (k46, pl2, none, false, [])
theorem k46_d : ∀ q ∈ k46, decode cX2_putKids q.1 = .ok q.2 := by decide +kernel
theorem X46_ok : CodeOK (Mof mE46) X46 := ⟨code_1 k46_d (by decide +kernel), rfl, fun h => absurd h (by decide), Or.inl ⟨rfl, rfl⟩, thr_0 (by decide +kernel)⟩
def k47 : Code1 := [(0, .aload_n 0, 1), (1, .invokespecial 1, 3), (4, .aload_n 0, 1), (5, .new 7, 3), (8, .dup, 1), (9, .invokespecial 9, 3), (12, .putfield 10, 3), (15, .aload_n 0, 1), (16, .iconst 1, 1), (17, .putfield 16, 3), (20, .aload_n 0, 1), (21, .iload_n 1, 1), (22, .putfield 20, 3), (25, .return_, 1)]
def X47 : MT := (k47, pl3, none, true, [])
theorem k47_d : ∀ q ∈ k47, decode cX3_init q.1 = .ok q.2 := by decide +kernel
theorem X47_ok : CodeOK (Mof mE47) X47 := ⟨code_1 k47_d (by decide +kernel), rfl, fun _ => rfl, Or.inl ⟨rfl, rfl⟩, thr_0 (by decide +kernel)⟩
def k48 : Code1 := [(0, .aload_n 0, 1), (1, .invokespecial 3, 3), (4, .aload_n 0, 1), (5, .aload_n 1, 1), (6, .putfield 9, 3), (9, .return_, 1)]
def X48 : MT := (k48, pl4, none, true, [])
theorem k48_d : ∀ q ∈ k48, decode cX4_init q.1 = .ok q.2 := by decide +kernel
theorem X48_ok : CodeOK (Mof mE48) X48 := ⟨code_1 k48_d (by decide +kernel), rfl, fun _ => rfl, Or.inl ⟨rfl, rfl⟩, thr_0 (by decide +kernel)⟩
def k49 : Code1 := [(0, .aload_n 0, 1), (1, .iconst 0, 1), (2, .putfield 15, 3), (5, .aload_n 0, 1), (6, .iconst 0, 1), (7, .putfield 19, 3), (10, .aload_n 0, 1), (11, .iconst (-1), 1), (12, .putfield 22, 3), (15, .aload_n 0, 1), (16, .getfield 9, 3), (19, .invokevirtual 25, 3), (22, .bipush 36, 2), (24, .if_icmp .eq 18, 3), (27, .aload_n 0, 1), (28, .getfield 9, 3), (31, .iconst 1, 1), (32, .aload_n 0, 1), (33, .getfield 9, 3), (36, .getfield 31, 3), (39, .invokevirtual 34, 3), (42, .new 38, 3), (45, .dup, 1), (46, .iconst 1, 1), (47, .invokespecial 40, 3), (50, .astore_n 1, 1), (51, .aload_n 0, 1), (52, .aload_n 1, 1), (53, .iconst 0, 1), (54, .invokevirtual 43, 3), (57, .istore_n 2, 1), (58, .aload_n 0, 1), (59, .getfield 9, 3), (62, .getfield 31, 3), (65, .iload_n 2, 1), (66, .if_icmp .ne 20, 3), (69, .aload_n 0, 1), (70, .getfield 9, 3), (73, .getfield 31, 3), (76, .aload_n 0, 1), (77, .getfield 9, 3), (80, .getfield 47, 3), (83, .if_icmp .eq 18, 3), (86, .aload_n 0, 1), (87, .getfield 9, 3), (90, .iconst 1, 1), (91, .aload_n 0, 1), (92, .getfield 9, 3), (95, .getfield 31, 3), (98, .invokevirtual 34, 3), (101, .aload_n 0, 1), (102, .getfield 19, 3), (105, .ifCond .eq 18, 3), (108, .aload_n 0, 1), (109, .getfield 9, 3), (112, .aload_n 0, 1), (113, .getfield 19, 3), (116, .aload_n 0, 1), (117, .getfield 22, 3), (120, .invokevirtual 34, 3), (123, .aload_n 1, 1), (124, .areturn, 1)]
def X49 : MT := (k49, pl4, (some (FieldType.object "PathHouse$Path")), false, [])
theorem k49_d : ∀ q ∈ k49, decode cX4_whole q.1 = .ok q.2 := by decide +kernel
theorem X49_ok : CodeOK (Mof mE49) X49 := ⟨code_1 k49_d (by decide +kernel), rfl, fun h => absurd h (by decide), Or.inl ⟨rfl, rfl⟩, thr_0 (by decide +kernel)⟩
def k50 : Code1 := [(0, .aload_n 0, 1), (1, .getfield 19, 3), (4, .ifCond .eq 11, 3), (7, .iload_n 2, 1), (8, .aload_n 0, 1), (9, .getfield 22, 3), (12, .if_icmp .ge 13, 3), (15, .aload_n 0, 1), (16, .iload_n 1, 1), (17, .putfield 19, 3), (20, .aload_n 0, 1), (21, .iload_n 2, 1), (22, .putfield 22, 3), (25, .return_, 1)]
def X50 : MT := (k50, pl4, none, false, [])
theorem k50_d : ∀ q ∈ k50, decode cX4_note q.1 = .ok q.2 := by decide +kernel
theorem X50_ok : CodeOK (Mof mE50) X50 := ⟨code_1 k50_d (by decide +kernel), rfl, fun h => absurd h (by decide), Or.inl ⟨rfl, rfl⟩, thr_0 (by decide +kernel)⟩
def k51 : Code1 := [(0, .aload_n 0, 1), (1, .getfield 15, 3), (4, .bipush 16, 2), (6, .if_icmp .lt 18, 3), (9, .aload_n 0, 1), (10, .getfield 9, 3), (13, .iconst 4, 1), (14, .aload_n 0, 1), (15, .getfield 9, 3), (18, .getfield 31, 3), (21, .invokevirtual 34, 3), (24, .aload_n 0, 1), (25, .dup, 1), (26, .getfield 15, 3), (29, .iconst 1, 1), (30, .iadd, 1), (31, .putfield 15, 3), (34, .aload_n 0, 1), (35, .getfield 9, 3), (38, .dup, 1), (39, .getfield 31, 3), (42, .iconst 1, 1), (43, .iadd, 1), (44, .putfield 31, 3), (47, .aload_n 0, 1), (48, .getfield 9, 3), (51, .invokevirtual 50, 3), (54, .return_, 1)]
def X51 : MT := (k51, pl4, none, false, [])
theorem k51_d : ∀ q ∈ k51, decode cX4_enter q.1 = .ok q.2 := by decide +kernel
theorem X51_ok : CodeOK (Mof mE51) X51 := ⟨code_1 k51_d (by decide +kernel), rfl, fun h => absurd h (by decide), Or.inl ⟨rfl, rfl⟩, thr_0 (by decide +kernel)⟩
def k52 : Code1 := [(0, .aload_n 0, 1), (1, .getfield 9, 3), (4, .getfield 31, 3), (7, .istore_n 2, 1), (8, .aload_n 0, 1), (9, .getfield 9, 3), (12, .iload_n 1, 1), (13, .invokevirtual 53, 3), (16, .lstore_n 3, 1), (17, .lload_n 3, 1), (18, .invokestatic 57, 3), (21, .ifCond .eq 9, 3), (24, .aload_n 0, 1), (25, .iconst 3, 1), (26, .iload_n 2, 1), (27, .invokevirtual 61, 3), (30, .lload_n 3, 1), (31, .lreturn, 1)]
def X52 : MT := (k52, pl4, (some FieldType.long), false, [])
theorem k52_d : ∀ q ∈ k52, decode cX4_readInt q.1 = .ok q.2 := by decide +kernel
theorem X52_ok : CodeOK (Mof mE52) X52 := ⟨code_1 k52_d (by decide +kernel), rfl, fun h => absurd h (by decide), Or.inl ⟨rfl, rfl⟩, thr_0 (by decide +kernel)⟩
def k53 : Code1 := [(0, .aload_n 0, 1), (1, .getfield 9, 3), (4, .invokevirtual 25, 3), (7, .bipush 45, 2), (9, .if_icmp .eq 16, 3), (12, .aload_n 0, 1), (13, .getfield 9, 3), (16, .invokevirtual 25, 3), (19, .invokestatic 64, 3), (22, .ifCond .eq 7, 3), (25, .iconst 1, 1), (26, .goto 4, 3), (29, .iconst 0, 1), (30, .ireturn, 1)]
def X53 : MT := (k53, pl4, (some FieldType.boolean), false, [])
theorem k53_d : ∀ q ∈ k53, decode cX4_atInt q.1 = .ok q.2 := by decide +kernel
theorem X53_ok : CodeOK (Mof mE53) X53 := ⟨code_1 k53_d (by decide +kernel), rfl, fun h => absurd h (by decide), Or.inl ⟨rfl, rfl⟩, thr_0 (by decide +kernel)⟩
def k54 : Code1 := [(0, .aload_n 0, 1), (1, .getfield 9, 3), (4, .invokevirtual 25, 3), (7, .bipush 34, 2), (9, .if_icmp .eq 15, 3), (12, .aload_n 0, 1), (13, .getfield 9, 3), (16, .invokevirtual 25, 3), (19, .bipush 39, 2), (21, .if_icmp .ne 7, 3), (24, .iconst 1, 1), (25, .goto 4, 3), (28, .iconst 0, 1), (29, .ireturn, 1)]
def X54 : MT := (k54, pl4, (some FieldType.boolean), false, [])
theorem k54_d : ∀ q ∈ k54, decode cX4_atString q.1 = .ok q.2 := by decide +kernel
theorem X54_ok : CodeOK (Mof mE54) X54 := ⟨code_1 k54_d (by decide +kernel), rfl, fun h => absurd h (by decide), Or.inl ⟨rfl, rfl⟩, thr_0 (by decide +kernel)⟩
def k55 : Code1 := [(0, .aload_n 0, 1), (1, .getfield 9, 3), (4, .dup, 1), (5, .getfield 31, 3), (8, .iconst 1, 1), (9, .iadd, 1), (10, .putfield 31, 3), (13, .aload_n 0, 1), (14, .getfield 9, 3), (17, .getfield 31, 3), (20, .istore_n 3, 1), (21, .aload_n 0, 1), (22, .getfield 9, 3), (25, .invokevirtual 50, 3), (28, .iconst 0, 1), (29, .istore 4, 2), (31, .iload 4, 2), (33, .aload_n 0, 1), (34, .getfield 9, 3), (37, .getfield 47, 3), (40, .if_icmp .ge 54, 3), (43, .aload_n 0, 1), (44, .getfield 9, 3), (47, .invokevirtual 25, 3), (50, .bipush 46, 2), (52, .if_icmp .eq 15, 3), (55, .aload_n 0, 1), (56, .getfield 9, 3), (59, .invokevirtual 25, 3), (62, .bipush 91, 2), (64, .if_icmp .ne 30, 3), (67, .aload_n 0, 1), (68, .aload_n 1, 1), (69, .iload_n 2, 1), (70, .invokevirtual 68, 3), (73, .aload_n 0, 1), (74, .getfield 9, 3), (77, .getfield 31, 3), (80, .istore_n 3, 1), (81, .aload_n 0, 1), (82, .getfield 9, 3), (85, .invokevirtual 50, 3), (88, .iinc 4 1, 3), (91, .goto (-60), 3), (94, .iload_n 3, 1), (95, .ireturn, 1)]
def X55 : MT := (k55, pl4, (some FieldType.int), false, [])
theorem k55_d : ∀ q ∈ k55, decode cX4_readSegments q.1 = .ok q.2 := by decide +kernel
theorem X55_ok : CodeOK (Mof mE55) X55 := ⟨code_1 k55_d (by decide +kernel), rfl, fun h => absurd h (by decide), Or.inl ⟨rfl, rfl⟩, thr_0 (by decide +kernel)⟩
def k56 : Code1 := [(0, .new 72, 3), (3, .dup, 1), (4, .invokespecial 74, 3), (7, .astore_n 3, 1), (8, .aload_n 1, 1), (9, .getfield 75, 3), (12, .aload_n 3, 1), (13, .invokevirtual 79, 3), (16, .pop, 1), (17, .aload_n 0, 1), (18, .getfield 9, 3), (21, .invokevirtual 25, 3), (24, .bipush 91, 2), (26, .if_icmp .ne 14, 3), (29, .aload_n 0, 1), (30, .aload_n 3, 1), (31, .iload_n 2, 1), (32, .invokevirtual 85, 3), (35, .istore 4, 2), (37, .goto 97, 3), (40, .aload_n 0, 1), (41, .getfield 9, 3), (44, .dup, 1), (45, .getfield 31, 3), (48, .iconst 1, 1), (49, .iadd, 1), (50, .putfield 31, 3), (53, .aload_n 3, 1), (54, .iload_n 2, 1), (55, .ifCond .ne 19, 3), (58, .aload_n 0, 1), (59, .getfield 9, 3), (62, .invokevirtual 25, 3), (65, .bipush 46, 2), (67, .if_icmp .ne 7, 3), (70, .iconst 1, 1), (71, .goto 4, 3), (74, .iconst 0, 1), (75, .putfield 89, 3), (78, .aload_n 3, 1), (79, .getfield 89, 3), (82, .ifCond .eq 16, 3), (85, .aload_n 0, 1), (86, .getfield 9, 3), (89, .dup, 1), (90, .getfield 31, 3), (93, .iconst 1, 1), (94, .iadd, 1), (95, .putfield 31, 3), (98, .aload_n 3, 1), (99, .getfield 89, 3), (102, .ifCond .eq 24, 3), (105, .aload_n 0, 1), (106, .getfield 9, 3), (109, .invokevirtual 25, 3), (112, .bipush 91, 2), (114, .if_icmp .ne 12, 3), (117, .aload_n 0, 1), (118, .aload_n 3, 1), (119, .iconst 0, 1), (120, .invokevirtual 85, 3), (123, .goto 9, 3), (126, .aload_n 0, 1), (127, .aload_n 3, 1), (128, .iload_n 2, 1), (129, .invokevirtual 93, 3), (132, .istore 4, 2), (134, .aload_n 1, 1), (135, .aload_n 1, 1), (136, .getfield 96, 3), (139, .ifCond .eq 19, 3), (142, .iload 4, 2), (144, .ifCond .eq 14, 3), (147, .aload_n 3, 1), (148, .getfield 89, 3), (151, .ifCond .ne 7, 3), (154, .iconst 1, 1), (155, .goto 4, 3), (158, .iconst 0, 1), (159, .putfield 96, 3), (162, .return_, 1)]
def X56 : MT := (k56, pl4, none, false, [])
theorem k56_d : ∀ q ∈ k56, decode cX4_readSegment q.1 = .ok q.2 := by decide +kernel
theorem X56_ok : CodeOK (Mof mE56) X56 := ⟨code_1 k56_d (by decide +kernel), rfl, fun h => absurd h (by decide), Or.inl ⟨rfl, rfl⟩, thr_0 (by decide +kernel)⟩
def k57 : Code1 := [(0, .iload_n 2, 1), (1, .ifCond .ne 46, 3), (4, .aload_n 0, 1), (5, .getfield 9, 3), (8, .invokevirtual 25, 3), (11, .bipush 42, 2), (13, .if_icmp .ne 34, 3), (16, .aload_n 0, 1), (17, .getfield 9, 3), (20, .dup, 1), (21, .getfield 31, 3), (24, .iconst 1, 1), (25, .iadd, 1), (26, .putfield 31, 3), (29, .aload_n 1, 1), (30, .getfield 99, 3), (33, .new 102, 3), (36, .dup, 1), (37, .iconst 1, 1), (38, .invokespecial 104, 3), (41, .invokevirtual 79, 3), (44, .pop, 1), (45, .iconst 0, 1), (46, .ireturn, 1), (47, .new 102, 3), (50, .dup, 1), (51, .iconst 0, 1), (52, .invokespecial 104, 3), (55, .astore_n 3, 1), (56, .aload_n 3, 1), (57, .aload_n 0, 1), (58, .getfield 9, 3), (61, .invokevirtual 107, 3), (64, .putfield 111, 3), (67, .aload_n 1, 1), (68, .getfield 99, 3), (71, .aload_n 3, 1), (72, .invokevirtual 79, 3), (75, .pop, 1), (76, .iconst 1, 1), (77, .ireturn, 1)]
def X57 : MT := (k57, pl4, (some FieldType.boolean), false, [])
theorem k57_d : ∀ q ∈ k57, decode cX4_readDotted q.1 = .ok q.2 := by decide +kernel
theorem X57_ok : CodeOK (Mof mE57) X57 := ⟨code_1 k57_d (by decide +kernel), rfl, fun h => absurd h (by decide), Or.inl ⟨rfl, rfl⟩, thr_0 (by decide +kernel)⟩
def k58 : Code1 := [(0, .aload_n 0, 1), (1, .getfield 9, 3), (4, .dup, 1), (5, .getfield 31, 3), (8, .iconst 1, 1), (9, .iadd, 1), (10, .putfield 31, 3), (13, .aload_n 0, 1), (14, .getfield 9, 3), (17, .invokevirtual 115, 3), (20, .ifCond .ne 7, 3), (23, .iconst 1, 1), (24, .goto 4, 3), (27, .iconst 0, 1), (28, .istore_n 3, 1), (29, .iload_n 2, 1), (30, .ifCond .ne 10, 3), (33, .aload_n 0, 1), (34, .getfield 9, 3), (37, .invokevirtual 50, 3), (40, .aload_n 0, 1), (41, .iload_n 2, 1), (42, .invokevirtual 119, 3), (45, .astore 4, 2), (47, .aload_n 1, 1), (48, .getfield 99, 3), (51, .aload 4, 2), (53, .invokevirtual 79, 3), (56, .pop, 1), (57, .iload_n 3, 1), (58, .ifCond .eq 19, 3), (61, .aload_n 0, 1), (62, .getfield 9, 3), (65, .invokevirtual 25, 3), (68, .bipush 93, 2), (70, .if_icmp .ne 7, 3), (73, .iconst 1, 1), (74, .goto 4, 3), (77, .iconst 0, 1), (78, .istore_n 3, 1), (79, .iconst 0, 1), (80, .istore 5, 2), (82, .iload 5, 2), (84, .aload_n 0, 1), (85, .getfield 9, 3), (88, .getfield 47, 3), (91, .if_icmp .ge 36, 3), (94, .iload_n 2, 1), (95, .ifCond .ne 32, 3), (98, .aload_n 0, 1), (99, .getfield 9, 3), (102, .invokevirtual 123, 3), (105, .ifCond .eq 22, 3), (108, .aload_n 1, 1), (109, .getfield 99, 3), (112, .aload_n 0, 1), (113, .iconst 0, 1), (114, .invokevirtual 119, 3), (117, .invokevirtual 79, 3), (120, .pop, 1), (121, .iinc 5 1, 3), (124, .goto (-42), 3), (127, .aload_n 0, 1), (128, .getfield 9, 3), (131, .bipush 93, 2), (133, .invokevirtual 126, 3), (136, .iload_n 3, 1), (137, .ifCond .eq 15, 3), (140, .aload 4, 2), (142, .invokevirtual 129, 3), (145, .ifCond .eq 7, 3), (148, .iconst 1, 1), (149, .goto 4, 3), (152, .iconst 0, 1), (153, .ireturn, 1)]
def X58 : MT := (k58, pl4, (some FieldType.boolean), false, [])
theorem k58_d : ∀ q ∈ k58, decode cX4_readBrackets q.1 = .ok q.2 := by decide +kernel
theorem X58_ok : CodeOK (Mof mE58) X58 := ⟨code_1 k58_d (by decide +kernel), rfl, fun h => absurd h (by decide), Or.inl ⟨rfl, rfl⟩, thr_0 (by decide +kernel)⟩
def k59 : Code1 := [(0, .aload_n 0, 1), (1, .invokevirtual 132, 3), (4, .ifCond .eq 25, 3), (7, .new 102, 3), (10, .dup, 1), (11, .iconst 0, 1), (12, .invokespecial 104, 3), (15, .astore_n 2, 1), (16, .aload_n 2, 1), (17, .aload_n 0, 1), (18, .getfield 9, 3), (21, .invokevirtual 135, 3), (24, .putfield 111, 3), (27, .aload_n 2, 1), (28, .areturn, 1), (29, .aload_n 0, 1), (30, .invokevirtual 138, 3), (33, .ifCond .eq 9, 3), (36, .aload_n 0, 1), (37, .iload_n 1, 1), (38, .invokevirtual 141, 3), (41, .areturn, 1), (42, .iload_n 1, 1), (43, .ifCond .eq 7, 3), (46, .iconst (-1), 1), (47, .goto 10, 3), (50, .aload_n 0, 1), (51, .getfield 9, 3), (54, .invokevirtual 25, 3), (57, .istore_n 2, 1), (58, .iload_n 2, 1), (59, .bipush 58, 2), (61, .if_icmp .ne 10, 3), (64, .aload_n 0, 1), (65, .iconst 0, 1), (66, .lconst 0, 1), (67, .invokevirtual 144, 3), (70, .areturn, 1), (71, .iload_n 2, 1), (72, .bipush 63, 2), (74, .if_icmp .ne 8, 3), (77, .aload_n 0, 1), (78, .invokevirtual 148, 3), (81, .areturn, 1), (82, .iload_n 2, 1), (83, .bipush 42, 2), (85, .if_icmp .eq 18, 3), (88, .aload_n 0, 1), (89, .getfield 9, 3), (92, .iconst 1, 1), (93, .aload_n 0, 1), (94, .getfield 9, 3), (97, .getfield 31, 3), (100, .invokevirtual 34, 3), (103, .aload_n 0, 1), (104, .getfield 9, 3), (107, .dup, 1), (108, .getfield 31, 3), (111, .iconst 1, 1), (112, .iadd, 1), (113, .putfield 31, 3), (116, .new 102, 3), (119, .dup, 1), (120, .iconst 1, 1), (121, .invokespecial 104, 3), (124, .areturn, 1)]
def X59 : MT := (k59, pl4, (some (FieldType.object "PathHouse$Selector")), false, [])
theorem k59_d : ∀ q ∈ k59, decode cX4_readSelector q.1 = .ok q.2 := by decide +kernel
theorem X59_ok : CodeOK (Mof mE59) X59 := ⟨code_1 k59_d (by decide +kernel), rfl, fun h => absurd h (by decide), Or.inl ⟨rfl, rfl⟩, thr_0 (by decide +kernel)⟩
def k60 : Code1 := [(0, .aload_n 0, 1), (1, .iconst 0, 1), (2, .invokevirtual 152, 3), (5, .lstore_n 2, 1), (6, .aload_n 0, 1), (7, .getfield 9, 3), (10, .getfield 31, 3), (13, .istore 4, 2), (15, .iload_n 1, 1), (16, .ifCond .ne 38, 3), (19, .aload_n 0, 1), (20, .getfield 9, 3), (23, .invokevirtual 50, 3), (26, .aload_n 0, 1), (27, .getfield 9, 3), (30, .invokevirtual 25, 3), (33, .bipush 58, 2), (35, .if_icmp .ne 10, 3), (38, .aload_n 0, 1), (39, .iconst 1, 1), (40, .lload_n 2, 1), (41, .invokevirtual 144, 3), (44, .areturn, 1), (45, .aload_n 0, 1), (46, .getfield 9, 3), (49, .iload 4, 2), (51, .putfield 31, 3), (54, .new 102, 3), (57, .dup, 1), (58, .iconst 2, 1), (59, .invokespecial 104, 3), (62, .astore 5, 2), (64, .aload 5, 2), (66, .lload_n 2, 1), (67, .putfield 155, 3), (70, .aload 5, 2), (72, .areturn, 1)]
def X60 : MT := (k60, pl4, (some (FieldType.object "PathHouse$Selector")), false, [])
theorem k60_d : ∀ q ∈ k60, decode cX4_readIndexed q.1 = .ok q.2 := by decide +kernel
theorem X60_ok : CodeOK (Mof mE60) X60 := ⟨code_1 k60_d (by decide +kernel), rfl, fun h => absurd h (by decide), Or.inl ⟨rfl, rfl⟩, thr_0 (by decide +kernel)⟩
def k61 : Code1 := [(0, .new 102, 3), (3, .dup, 1), (4, .iconst 3, 1), (5, .invokespecial 104, 3), (8, .astore 4, 2), (10, .aload 4, 2), (12, .iload_n 1, 1), (13, .putfield 159, 3), (16, .aload 4, 2), (18, .lload_n 2, 1), (19, .putfield 155, 3), (22, .aload_n 0, 1), (23, .getfield 9, 3), (26, .dup, 1), (27, .getfield 31, 3), (30, .iconst 1, 1), (31, .iadd, 1), (32, .putfield 31, 3), (35, .aload_n 0, 1), (36, .getfield 9, 3), (39, .invokevirtual 50, 3), (42, .aload_n 0, 1), (43, .invokevirtual 138, 3), (46, .ifCond .eq 26, 3), (49, .aload 4, 2), (51, .iconst 1, 1), (52, .putfield 162, 3), (55, .aload 4, 2), (57, .aload_n 0, 1), (58, .iconst 0, 1), (59, .invokevirtual 152, 3), (62, .putfield 165, 3), (65, .aload_n 0, 1), (66, .getfield 9, 3), (69, .invokevirtual 50, 3), (72, .aload_n 0, 1), (73, .getfield 9, 3), (76, .invokevirtual 25, 3), (79, .bipush 58, 2), (81, .if_icmp .ne 44, 3), (84, .aload_n 0, 1), (85, .getfield 9, 3), (88, .dup, 1), (89, .getfield 31, 3), (92, .iconst 1, 1), (93, .iadd, 1), (94, .putfield 31, 3), (97, .aload_n 0, 1), (98, .getfield 9, 3), (101, .invokevirtual 50, 3), (104, .aload 4, 2), (106, .aload_n 0, 1), (107, .invokevirtual 138, 3), (110, .ifCond .eq 11, 3), (113, .aload_n 0, 1), (114, .iconst 0, 1), (115, .invokevirtual 152, 3), (118, .goto 4, 3), (121, .lconst 1, 1), (122, .putfield 167, 3), (125, .aload 4, 2), (127, .areturn, 1)]
def X61 : MT := (k61, pl4, (some (FieldType.object "PathHouse$Selector")), false, [])
theorem k61_d : ∀ q ∈ k61, decode cX4_readSlice q.1 = .ok q.2 := by decide +kernel
theorem X61_ok : CodeOK (Mof mE61) X61 := ⟨code_1 k61_d (by decide +kernel), rfl, fun h => absurd h (by decide), Or.inl ⟨rfl, rfl⟩, thr_0 (by decide +kernel)⟩
def k62 : Code1 := [(0, .new 102, 3), (3, .dup, 1), (4, .iconst 4, 1), (5, .invokespecial 104, 3), (8, .astore_n 1, 1), (9, .aload_n 0, 1), (10, .invokevirtual 170, 3), (13, .aload_n 1, 1), (14, .aload_n 0, 1), (15, .aconst_null, 1), (16, .invokevirtual 173, 3), (19, .putfield 177, 3), (22, .aload_n 0, 1), (23, .dup, 1), (24, .getfield 15, 3), (27, .iconst 1, 1), (28, .isub, 1), (29, .putfield 15, 3), (32, .aload_n 1, 1), (33, .areturn, 1)]
def X62 : MT := (k62, pl4, (some (FieldType.object "PathHouse$Selector")), false, [])
theorem k62_d : ∀ q ∈ k62, decode cX4_readFilter q.1 = .ok q.2 := by decide +kernel
theorem X62_ok : CodeOK (Mof mE62) X62 := ⟨code_1 k62_d (by decide +kernel), rfl, fun h => absurd h (by decide), Or.inl ⟨rfl, rfl⟩, thr_0 (by decide +kernel)⟩
def k63 : Code1 := [(0, .new 181, 3), (3, .dup, 1), (4, .iconst 0, 1), (5, .aload_n 0, 1), (6, .getfield 9, 3), (9, .getfield 31, 3), (12, .invokespecial 183, 3), (15, .astore_n 2, 1), (16, .aload_n 2, 1), (17, .getfield 185, 3), (20, .aload_n 0, 1), (21, .aload_n 1, 1), (22, .invokevirtual 188, 3), (25, .invokevirtual 79, 3), (28, .pop, 1), (29, .iconst 0, 1), (30, .istore_n 3, 1), (31, .iload_n 3, 1), (32, .aload_n 0, 1), (33, .getfield 9, 3), (36, .getfield 47, 3), (39, .if_icmp .ge 31, 3), (42, .aload_n 0, 1), (43, .bipush 124, 2), (45, .invokevirtual 191, 3), (48, .ifCond .eq 22, 3), (51, .aload_n 2, 1), (52, .getfield 185, 3), (55, .aload_n 0, 1), (56, .aconst_null, 1), (57, .invokevirtual 188, 3), (60, .invokevirtual 79, 3), (63, .pop, 1), (64, .iinc 3 1, 3), (67, .goto (-36), 3), (70, .aload_n 2, 1), (71, .invokevirtual 194, 3), (74, .areturn, 1)]
def X63 : MT := (k63, pl4, (some (FieldType.object "PathHouse$Term")), false, [])
theorem k63_d : ∀ q ∈ k63, decode cX4_readOr q.1 = .ok q.2 := by decide +kernel
theorem X63_ok : CodeOK (Mof mE63) X63 := ⟨code_1 k63_d (by decide +kernel), rfl, fun h => absurd h (by decide), Or.inl ⟨rfl, rfl⟩, thr_0 (by decide +kernel)⟩
def k64 : Code1 := [(0, .new 181, 3), (3, .dup, 1), (4, .iconst 1, 1), (5, .aload_n 0, 1), (6, .getfield 9, 3), (9, .getfield 31, 3), (12, .invokespecial 183, 3), (15, .astore_n 2, 1), (16, .aload_n 2, 1), (17, .getfield 185, 3), (20, .aload_n 1, 1), (21, .ifnonnull 10, 3), (24, .aload_n 0, 1), (25, .invokevirtual 198, 3), (28, .goto 8, 3), (31, .aload_n 0, 1), (32, .aload_n 1, 1), (33, .invokevirtual 201, 3), (36, .invokevirtual 79, 3), (39, .pop, 1), (40, .iconst 0, 1), (41, .istore_n 3, 1), (42, .iload_n 3, 1), (43, .aload_n 0, 1), (44, .getfield 9, 3), (47, .getfield 47, 3), (50, .if_icmp .ge 30, 3), (53, .aload_n 0, 1), (54, .bipush 38, 2), (56, .invokevirtual 191, 3), (59, .ifCond .eq 21, 3), (62, .aload_n 2, 1), (63, .getfield 185, 3), (66, .aload_n 0, 1), (67, .invokevirtual 198, 3), (70, .invokevirtual 79, 3), (73, .pop, 1), (74, .iinc 3 1, 3), (77, .goto (-35), 3), (80, .aload_n 2, 1), (81, .invokevirtual 194, 3), (84, .areturn, 1)]
def X64 : MT := (k64, pl4, (some (FieldType.object "PathHouse$Term")), false, [])
theorem k64_d : ∀ q ∈ k64, decode cX4_readAnd q.1 = .ok q.2 := by decide +kernel
theorem X64_ok : CodeOK (Mof mE64) X64 := ⟨code_1 k64_d (by decide +kernel), rfl, fun h => absurd h (by decide), Or.inl ⟨rfl, rfl⟩, thr_0 (by decide +kernel)⟩
def k65 : Code1 := [(0, .aload_n 0, 1), (1, .getfield 9, 3), (4, .invokevirtual 50, 3), (7, .aload_n 0, 1), (8, .getfield 9, 3), (11, .invokevirtual 25, 3), (14, .iload_n 1, 1), (15, .if_icmp .eq 5, 3), (18, .iconst 0, 1), (19, .ireturn, 1), (20, .aload_n 0, 1), (21, .getfield 9, 3), (24, .dup, 1), (25, .getfield 31, 3), (28, .iconst 1, 1), (29, .iadd, 1), (30, .putfield 31, 3), (33, .aload_n 0, 1), (34, .getfield 9, 3), (37, .iload_n 1, 1), (38, .invokevirtual 126, 3), (41, .aload_n 0, 1), (42, .getfield 9, 3), (45, .invokevirtual 50, 3), (48, .iconst 1, 1), (49, .ireturn, 1)]
def X65 : MT := (k65, pl4, (some FieldType.boolean), false, [])
theorem k65_d : ∀ q ∈ k65, decode cX4_takesTwice q.1 = .ok q.2 := by decide +kernel
theorem X65_ok : CodeOK (Mof mE65) X65 := ⟨code_1 k65_d (by decide +kernel), rfl, fun h => absurd h (by decide), Or.inl ⟨rfl, rfl⟩, thr_0 (by decide +kernel)⟩
def k66 : Code1 := [(0, .aload_n 0, 1), (1, .getfield 9, 3), (4, .invokevirtual 25, 3), (7, .bipush 33, 2), (9, .if_icmp .ne 65, 3), (12, .aload_n 0, 1), (13, .getfield 9, 3), (16, .dup, 1), (17, .getfield 31, 3), (20, .iconst 1, 1), (21, .iadd, 1), (22, .putfield 31, 3), (25, .aload_n 0, 1), (26, .getfield 9, 3), (29, .invokevirtual 50, 3), (32, .aload_n 0, 1), (33, .getfield 9, 3), (36, .invokevirtual 25, 3), (39, .bipush 40, 2), (41, .if_icmp .ne 10, 3), (44, .aload_n 0, 1), (45, .invokevirtual 204, 3), (48, .goto 7, 3), (51, .aload_n 0, 1), (52, .invokevirtual 207, 3), (55, .astore_n 1, 1), (56, .aload_n 1, 1), (57, .aload_n 1, 1), (58, .getfield 210, 3), (61, .ifCond .ne 7, 3), (64, .iconst 1, 1), (65, .goto 4, 3), (68, .iconst 0, 1), (69, .putfield 210, 3), (72, .aload_n 1, 1), (73, .areturn, 1), (74, .aload_n 0, 1), (75, .getfield 9, 3), (78, .invokevirtual 25, 3), (81, .bipush 40, 2), (83, .if_icmp .ne 10, 3), (86, .aload_n 0, 1), (87, .invokevirtual 204, 3), (90, .goto 12, 3), (93, .aload_n 0, 1), (94, .aload_n 0, 1), (95, .iconst 0, 1), (96, .invokevirtual 213, 3), (99, .invokevirtual 201, 3), (102, .areturn, 1)]
def X66 : MT := (k66, pl4, (some (FieldType.object "PathHouse$Term")), false, [])
theorem k66_d : ∀ q ∈ k66, decode cX4_readBasic q.1 = .ok q.2 := by decide +kernel
theorem X66_ok : CodeOK (Mof mE66) X66 := ⟨code_1 k66_d (by decide +kernel), rfl, fun h => absurd h (by decide), Or.inl ⟨rfl, rfl⟩, thr_0 (by decide +kernel)⟩
def k67 : Code1 := [(0, .aload_n 0, 1), (1, .invokevirtual 170, 3), (4, .aload_n 0, 1), (5, .aconst_null, 1), (6, .invokevirtual 173, 3), (9, .astore_n 1, 1), (10, .aload_n 0, 1), (11, .getfield 9, 3), (14, .bipush 41, 2), (16, .invokevirtual 126, 3), (19, .aload_n 0, 1), (20, .dup, 1), (21, .getfield 15, 3), (24, .iconst 1, 1), (25, .isub, 1), (26, .putfield 15, 3), (29, .aload_n 1, 1), (30, .areturn, 1)]
def X67 : MT := (k67, pl4, (some (FieldType.object "PathHouse$Term")), false, [])
theorem k67_d : ∀ q ∈ k67, decode cX4_readGroup q.1 = .ok q.2 := by decide +kernel
theorem X67_ok : CodeOK (Mof mE67) X67 := ⟨code_1 k67_d (by decide +kernel), rfl, fun h => absurd h (by decide), Or.inl ⟨rfl, rfl⟩, thr_0 (by decide +kernel)⟩
def k68 : Code1 := [(0, .aload_n 0, 1), (1, .invokevirtual 138, 3), (4, .ifCond .ne 10, 3), (7, .aload_n 0, 1), (8, .invokevirtual 132, 3), (11, .ifCond .eq 18, 3), (14, .aload_n 0, 1), (15, .getfield 9, 3), (18, .iconst 1, 1), (19, .aload_n 0, 1), (20, .getfield 9, 3), (23, .getfield 31, 3), (26, .invokevirtual 34, 3), (29, .aload_n 0, 1), (30, .aload_n 0, 1), (31, .iconst 0, 1), (32, .invokevirtual 213, 3), (35, .invokevirtual 217, 3), (38, .areturn, 1)]
def X68 : MT := (k68, pl4, (some (FieldType.object "PathHouse$Term")), false, [])
theorem k68_d : ∀ q ∈ k68, decode cX4_readNegatedTest q.1 = .ok q.2 := by decide +kernel
theorem X68_ok : CodeOK (Mof mE68) X68 := ⟨code_1 k68_d (by decide +kernel), rfl, fun h => absurd h (by decide), Or.inl ⟨rfl, rfl⟩, thr_0 (by decide +kernel)⟩
def k69 : Code1 := [(0, .aload_n 0, 1), (1, .getfield 9, 3), (4, .invokevirtual 50, 3), (7, .aload_n 1, 1), (8, .invokevirtual 220, 3), (11, .ifCond .eq 18, 3), (14, .aload_n 0, 1), (15, .invokevirtual 223, 3), (18, .ifCond .eq 11, 3), (21, .aload_n 0, 1), (22, .aload_n 1, 1), (23, .invokevirtual 226, 3), (26, .goto 8, 3), (29, .aload_n 0, 1), (30, .aload_n 1, 1), (31, .invokevirtual 217, 3), (34, .areturn, 1)]
def X69 : MT := (k69, pl4, (some (FieldType.object "PathHouse$Term")), false, [])
theorem k69_d : ∀ q ∈ k69, decode cX4_readBasicFrom q.1 = .ok q.2 := by decide +kernel
theorem X69_ok : CodeOK (Mof mE69) X69 := ⟨code_1 k69_d (by decide +kernel), rfl, fun h => absurd h (by decide), Or.inl ⟨rfl, rfl⟩, thr_0 (by decide +kernel)⟩
def k70 : Code1 := [(0, .aload_n 1, 1), (1, .getfield 229, 3), (4, .iconst 3, 1), (5, .if_icmp .ne 18, 3), (8, .aload_n 0, 1), (9, .getfield 9, 3), (12, .iconst 1, 1), (13, .aload_n 0, 1), (14, .getfield 9, 3), (17, .getfield 31, 3), (20, .invokevirtual 34, 3), (23, .aload_n 1, 1), (24, .invokevirtual 232, 3), (27, .ifCond .eq 12, 3), (30, .aload_n 0, 1), (31, .iconst 2, 1), (32, .aload_n 1, 1), (33, .getfield 235, 3), (36, .invokevirtual 61, 3), (39, .aload_n 1, 1), (40, .areturn, 1)]
def X70 : MT := (k70, pl4, (some (FieldType.object "PathHouse$Term")), false, [])
theorem k70_d : ∀ q ∈ k70, decode cX4_asTest q.1 = .ok q.2 := by decide +kernel
theorem X70_ok : CodeOK (Mof mE70) X70 := ⟨code_1 k70_d (by decide +kernel), rfl, fun h => absurd h (by decide), Or.inl ⟨rfl, rfl⟩, thr_0 (by decide +kernel)⟩
def k71 : Code1 := [(0, .aload_n 0, 1), (1, .getfield 9, 3), (4, .invokevirtual 25, 3), (7, .istore_n 1, 1), (8, .iload_n 1, 1), (9, .bipush 61, 2), (11, .if_icmp .eq 21, 3), (14, .iload_n 1, 1), (15, .bipush 33, 2), (17, .if_icmp .eq 15, 3), (20, .iload_n 1, 1), (21, .bipush 60, 2), (23, .if_icmp .eq 9, 3), (26, .iload_n 1, 1), (27, .bipush 62, 2), (29, .if_icmp .ne 7, 3), (32, .iconst 1, 1), (33, .goto 4, 3), (36, .iconst 0, 1), (37, .ireturn, 1)]
def X71 : MT := (k71, pl4, (some FieldType.boolean), false, [])
theorem k71_d : ∀ q ∈ k71, decode cX4_atOperator q.1 = .ok q.2 := by decide +kernel
theorem X71_ok : CodeOK (Mof mE71) X71 := ⟨code_1 k71_d (by decide +kernel), rfl, fun h => absurd h (by decide), Or.inl ⟨rfl, rfl⟩, thr_0 (by decide +kernel)⟩
def k72 : Code1 := [(0, .new 181, 3), (3, .dup, 1), (4, .iconst 2, 1), (5, .aload_n 1, 1), (6, .getfield 235, 3), (9, .invokespecial 183, 3), (12, .astore_n 2, 1), (13, .aload_n 2, 1), (14, .aload_n 1, 1), (15, .putfield 238, 3), (18, .aload_n 2, 1), (19, .aload_n 0, 1), (20, .invokevirtual 241, 3), (23, .putfield 244, 3), (26, .aload_n 0, 1), (27, .getfield 9, 3), (30, .invokevirtual 50, 3), (33, .aload_n 2, 1), (34, .aload_n 0, 1), (35, .iconst 1, 1), (36, .invokevirtual 213, 3), (39, .putfield 247, 3), (42, .aload_n 2, 1), (43, .areturn, 1)]
def X72 : MT := (k72, pl4, (some (FieldType.object "PathHouse$Term")), false, [])
theorem k72_d : ∀ q ∈ k72, decode cX4_readComparison q.1 = .ok q.2 := by decide +kernel
theorem X72_ok : CodeOK (Mof mE72) X72 := ⟨code_1 k72_d (by decide +kernel), rfl, fun h => absurd h (by decide), Or.inl ⟨rfl, rfl⟩, thr_0 (by decide +kernel)⟩
def k73 : Code1 := [(0, .aload_n 0, 1), (1, .getfield 9, 3), (4, .invokevirtual 25, 3), (7, .istore_n 1, 1), (8, .aload_n 0, 1), (9, .getfield 9, 3), (12, .dup, 1), (13, .getfield 31, 3), (16, .iconst 1, 1), (17, .iadd, 1), (18, .putfield 31, 3), (21, .iload_n 1, 1), (22, .bipush 61, 2), (24, .if_icmp .eq 9, 3), (27, .iload_n 1, 1), (28, .bipush 33, 2), (30, .if_icmp .ne 24, 3), (33, .aload_n 0, 1), (34, .getfield 9, 3), (37, .bipush 61, 2), (39, .invokevirtual 126, 3), (42, .iload_n 1, 1), (43, .bipush 61, 2), (45, .if_icmp .ne 7, 3), (48, .iconst 0, 1), (49, .goto 4, 3), (52, .iconst 1, 1), (53, .ireturn, 1), (54, .aload_n 0, 1), (55, .getfield 9, 3), (58, .invokevirtual 25, 3), (61, .bipush 61, 2), (63, .if_icmp .eq 15, 3), (66, .iload_n 1, 1), (67, .bipush 60, 2), (69, .if_icmp .ne 7, 3), (72, .iconst 2, 1), (73, .goto 4, 3), (76, .iconst 4, 1), (77, .ireturn, 1), (78, .aload_n 0, 1), (79, .getfield 9, 3), (82, .dup, 1), (83, .getfield 31, 3), (86, .iconst 1, 1), (87, .iadd, 1), (88, .putfield 31, 3), (91, .iload_n 1, 1), (92, .bipush 60, 2), (94, .if_icmp .ne 7, 3), (97, .iconst 3, 1), (98, .goto 4, 3), (101, .iconst 5, 1), (102, .ireturn, 1)]
def X73 : MT := (k73, pl4, (some FieldType.int), false, [])
theorem k73_d : ∀ q ∈ k73, decode cX4_readOperator q.1 = .ok q.2 := by decide +kernel
theorem X73_ok : CodeOK (Mof mE73) X73 := ⟨code_1 k73_d (by decide +kernel), rfl, fun h => absurd h (by decide), Or.inl ⟨rfl, rfl⟩, thr_0 (by decide +kernel)⟩
def k74 : Code1 := [(0, .aload_n 0, 1), (1, .getfield 9, 3), (4, .getfield 31, 3), (7, .istore_n 2, 1), (8, .aload_n 0, 1), (9, .getfield 9, 3), (12, .invokevirtual 25, 3), (15, .istore_n 3, 1), (16, .iload_n 3, 1), (17, .bipush 64, 2), (19, .if_icmp .eq 9, 3), (22, .iload_n 3, 1), (23, .bipush 36, 2), (25, .if_icmp .ne 51, 3), (28, .new 181, 3), (31, .dup, 1), (32, .iconst 4, 1), (33, .iload_n 2, 1), (34, .invokespecial 183, 3), (37, .astore 4, 2), (39, .aload 4, 2), (41, .new 38, 3), (44, .dup, 1), (45, .iload_n 3, 1), (46, .bipush 36, 2), (48, .if_icmp .ne 7, 3), (51, .iconst 1, 1), (52, .goto 4, 3), (55, .iconst 0, 1), (56, .invokespecial 40, 3), (59, .putfield 250, 3), (62, .aload_n 0, 1), (63, .aload 4, 2), (65, .getfield 250, 3), (68, .iload_n 1, 1), (69, .invokevirtual 43, 3), (72, .pop, 1), (73, .aload 4, 2), (75, .areturn, 1), (76, .iload_n 3, 1), (77, .invokestatic 254, 3), (80, .ifCond .eq 8, 3), (83, .aload_n 0, 1), (84, .invokevirtual 257, 3), (87, .areturn, 1), (88, .aload_n 0, 1), (89, .invokevirtual 138, 3), (92, .ifCond .eq 26, 3), (95, .iconst 3, 1), (96, .iload_n 2, 1), (97, .invokestatic 260, 3), (100, .astore 4, 2), (102, .aload 4, 2), (104, .getfield 264, 3), (107, .aload_n 0, 1), (108, .iconst 1, 1), (109, .invokevirtual 152, 3), (112, .putfield 268, 3), (115, .aload 4, 2), (117, .areturn, 1), (118, .aload_n 0, 1), (119, .invokevirtual 132, 3), (122, .ifCond .ne 12, 3), (125, .aload_n 0, 1), (126, .getfield 9, 3), (129, .iconst 1, 1), (130, .iload_n 2, 1), (131, .invokevirtual 34, 3), (134, .iconst 4, 1), (135, .iload_n 2, 1), (136, .invokestatic 260, 3), (139, .astore 4, 2), (141, .aload 4, 2), (143, .getfield 264, 3), (146, .aload_n 0, 1), (147, .getfield 9, 3), (150, .invokevirtual 135, 3), (153, .putfield 273, 3), (156, .aload 4, 2), (158, .areturn, 1)]
def X74 : MT := (k74, pl4, (some (FieldType.object "PathHouse$Term")), false, [])
theorem k74_d : ∀ q ∈ k74, decode cX4_readOperand q.1 = .ok q.2 := by decide +kernel
theorem X74_ok : CodeOK (Mof mE74) X74 := ⟨code_1 k74_d (by decide +kernel), rfl, fun h => absurd h (by decide), Or.inl ⟨rfl, rfl⟩, thr_0 (by decide +kernel)⟩
def k75 : Code1 := [(0, .new 181, 3), (3, .dup, 1), (4, .iconst 3, 1), (5, .iload_n 1, 1), (6, .invokespecial 183, 3), (9, .astore_n 2, 1), (10, .aload_n 2, 1), (11, .new 269, 3), (14, .dup, 1), (15, .iload_n 0, 1), (16, .aconst_null, 1), (17, .iconst 0, 1), (18, .iconst 0, 1), (19, .invokespecial 276, 3), (22, .putfield 264, 3), (25, .aload_n 2, 1), (26, .areturn, 1)]
def X75 : MT := (k75, pl4, (some (FieldType.object "PathHouse$Term")), false, [])
theorem k75_d : ∀ q ∈ k75, decode cX4_literal q.1 = .ok q.2 := by decide +kernel
theorem X75_ok : CodeOK (Mof mE75) X75 := ⟨code_1 k75_d (by decide +kernel), rfl, fun h => absurd h (by decide), Or.inl ⟨rfl, rfl⟩, thr_0 (by decide +kernel)⟩
def k76 : Code1 := [(0, .aload_n 0, 1), (1, .getfield 9, 3), (4, .getfield 31, 3), (7, .istore_n 1, 1), (8, .aload_n 0, 1), (9, .getfield 9, 3), (12, .getfield 31, 3), (15, .aload_n 0, 1), (16, .getfield 9, 3), (19, .getfield 47, 3), (22, .if_icmp .ge 57, 3), (25, .aload_n 0, 1), (26, .getfield 9, 3), (29, .invokevirtual 25, 3), (32, .invokestatic 254, 3), (35, .ifCond .ne 28, 3), (38, .aload_n 0, 1), (39, .getfield 9, 3), (42, .invokevirtual 25, 3), (45, .invokestatic 64, 3), (48, .ifCond .ne 15, 3), (51, .aload_n 0, 1), (52, .getfield 9, 3), (55, .invokevirtual 25, 3), (58, .bipush 95, 2), (60, .if_icmp .ne 19, 3), (63, .aload_n 0, 1), (64, .getfield 9, 3), (67, .dup, 1), (68, .getfield 31, 3), (71, .iconst 1, 1), (72, .iadd, 1), (73, .putfield 31, 3), (76, .goto (-68), 3), (79, .aload_n 0, 1), (80, .getfield 9, 3), (83, .invokevirtual 25, 3), (86, .bipush 40, 2), (88, .if_icmp .ne 9, 3), (91, .aload_n 0, 1), (92, .iload_n 1, 1), (93, .invokevirtual 279, 3), (96, .areturn, 1), (97, .aload_n 0, 1), (98, .getfield 9, 3), (101, .iload_n 1, 1), (102, .aload_n 0, 1), (103, .getfield 9, 3), (106, .getfield 31, 3), (109, .ldc_w 283, 3), (112, .invokevirtual 285, 3), (115, .ifCond .eq 9, 3), (118, .iconst 0, 1), (119, .iload_n 1, 1), (120, .invokestatic 260, 3), (123, .areturn, 1), (124, .aload_n 0, 1), (125, .getfield 9, 3), (128, .iload_n 1, 1), (129, .aload_n 0, 1), (130, .getfield 9, 3), (133, .getfield 31, 3), (136, .ldc_w 289, 3), (139, .invokevirtual 285, 3), (142, .ifCond .eq 9, 3), (145, .iconst 1, 1), (146, .iload_n 1, 1), (147, .invokestatic 260, 3), (150, .areturn, 1), (151, .aload_n 0, 1), (152, .getfield 9, 3), (155, .iload_n 1, 1), (156, .aload_n 0, 1), (157, .getfield 9, 3), (160, .getfield 31, 3), (163, .ldc_w 291, 3), (166, .invokevirtual 285, 3), (169, .ifCond .ne 18, 3), (172, .aload_n 0, 1), (173, .getfield 9, 3), (176, .iconst 1, 1), (177, .aload_n 0, 1), (178, .getfield 9, 3), (181, .getfield 31, 3), (184, .invokevirtual 34, 3), (187, .iconst 2, 1), (188, .iload_n 1, 1), (189, .invokestatic 260, 3), (192, .areturn, 1)]
def X76 : MT := (k76, pl4, (some (FieldType.object "PathHouse$Term")), false, [])
theorem k76_d : ∀ q ∈ k76, decode cX4_readWord q.1 = .ok q.2 := by decide +kernel
theorem X76_ok : CodeOK (Mof mE76) X76 := ⟨code_1 k76_d (by decide +kernel), rfl, fun h => absurd h (by decide), Or.inl ⟨rfl, rfl⟩, thr_0 (by decide +kernel)⟩
def k77 : Code1 := [(0, .new 181, 3), (3, .dup, 1), (4, .aload_n 0, 1), (5, .iload_n 1, 1), (6, .invokevirtual 293, 3), (9, .iload_n 1, 1), (10, .invokespecial 183, 3), (13, .astore_n 2, 1), (14, .aload_n 2, 1), (15, .new 269, 3), (18, .dup, 1), (19, .iconst 3, 1), (20, .aconst_null, 1), (21, .iconst 0, 1), (22, .iconst 0, 1), (23, .invokespecial 276, 3), (26, .putfield 264, 3), (29, .aload_n 0, 1), (30, .invokevirtual 170, 3), (33, .iconst 0, 1), (34, .istore_n 3, 1), (35, .aload_n 0, 1), (36, .getfield 9, 3), (39, .invokevirtual 25, 3), (42, .bipush 41, 2), (44, .if_icmp .eq 7, 3), (47, .iconst 1, 1), (48, .goto 4, 3), (51, .iconst 0, 1), (52, .istore 4, 2), (54, .iconst 0, 1), (55, .istore 5, 2), (57, .iload 5, 2), (59, .aload_n 0, 1), (60, .getfield 9, 3), (63, .getfield 47, 3), (66, .if_icmp .ge 34, 3), (69, .iload 4, 2), (71, .ifCond .eq 29, 3), (74, .aload_n 2, 1), (75, .aload_n 0, 1), (76, .invokevirtual 297, 3), (79, .putfield 238, 3), (82, .iinc 3 1, 3), (85, .aload_n 0, 1), (86, .getfield 9, 3), (89, .invokevirtual 123, 3), (92, .istore 4, 2), (94, .iinc 5 1, 3), (97, .goto (-40), 3), (100, .aload_n 0, 1), (101, .getfield 9, 3), (104, .bipush 41, 2), (106, .invokevirtual 126, 3), (109, .aload_n 0, 1), (110, .dup, 1), (111, .getfield 15, 3), (114, .iconst 1, 1), (115, .isub, 1), (116, .putfield 15, 3), (119, .iload_n 3, 1), (120, .iconst 1, 1), (121, .if_icmp .ne 14, 3), (124, .aload_n 2, 1), (125, .aload_n 2, 1), (126, .getfield 238, 3), (129, .invokevirtual 300, 3), (132, .ifCond .ne 9, 3), (135, .aload_n 0, 1), (136, .iconst 2, 1), (137, .iload_n 1, 1), (138, .invokevirtual 61, 3), (141, .aload_n 2, 1), (142, .areturn, 1)]
def X77 : MT := (k77, pl4, (some (FieldType.object "PathHouse$Term")), false, [])
theorem k77_d : ∀ q ∈ k77, decode cX4_readFunction q.1 = .ok q.2 := by decide +kernel
theorem X77_ok : CodeOK (Mof mE77) X77 := ⟨code_1 k77_d (by decide +kernel), rfl, fun h => absurd h (by decide), Or.inl ⟨rfl, rfl⟩, thr_0 (by decide +kernel)⟩
def k78 : Code1 := [(0, .aload_n 0, 1), (1, .getfield 9, 3), (4, .iload_n 1, 1), (5, .aload_n 0, 1), (6, .getfield 9, 3), (9, .getfield 31, 3), (12, .ldc_w 304, 3), (15, .invokevirtual 285, 3), (18, .ifCond .eq 5, 3), (21, .iconst 5, 1), (22, .ireturn, 1), (23, .aload_n 0, 1), (24, .getfield 9, 3), (27, .iload_n 1, 1), (28, .aload_n 0, 1), (29, .getfield 9, 3), (32, .getfield 31, 3), (35, .ldc_w 306, 3), (38, .invokevirtual 285, 3), (41, .ifCond .eq 6, 3), (44, .bipush 6, 2), (46, .ireturn, 1), (47, .aload_n 0, 1), (48, .getfield 9, 3), (51, .iload_n 1, 1), (52, .aload_n 0, 1), (53, .getfield 9, 3), (56, .getfield 31, 3), (59, .ldc_w 308, 3), (62, .invokevirtual 285, 3), (65, .ifCond .eq 8, 3), (68, .bipush 7, 2), (70, .goto 5, 3), (73, .bipush 8, 2), (75, .ireturn, 1)]
def X78 : MT := (k78, pl4, (some FieldType.int), false, [])
theorem k78_d : ∀ q ∈ k78, decode cX4_functionNamed q.1 = .ok q.2 := by decide +kernel
theorem X78_ok : CodeOK (Mof mE78) X78 := ⟨code_1 k78_d (by decide +kernel), rfl, fun h => absurd h (by decide), Or.inl ⟨rfl, rfl⟩, thr_0 (by decide +kernel)⟩
def k79 : Code1 := [(0, .aload_n 0, 1), (1, .getfield 9, 3), (4, .getfield 31, 3), (7, .istore_n 1, 1), (8, .aconst_null, 1), (9, .astore_n 2, 1), (10, .aload_n 0, 1), (11, .getfield 9, 3), (14, .invokevirtual 25, 3), (17, .bipush 33, 2), (19, .if_icmp .eq 38, 3), (22, .aload_n 0, 1), (23, .getfield 9, 3), (26, .invokevirtual 25, 3), (29, .bipush 40, 2), (31, .if_icmp .eq 26, 3), (34, .aload_n 0, 1), (35, .iconst 0, 1), (36, .invokevirtual 213, 3), (39, .astore_n 2, 1), (40, .aload_n 0, 1), (41, .getfield 9, 3), (44, .invokevirtual 50, 3), (47, .aload_n 0, 1), (48, .aload_n 2, 1), (49, .invokevirtual 310, 3), (52, .ifCond .ne 5, 3), (55, .aload_n 2, 1), (56, .areturn, 1), (57, .aload_n 0, 1), (58, .aload_n 2, 1), (59, .invokevirtual 173, 3), (62, .pop, 1), (63, .new 181, 3), (66, .dup, 1), (67, .bipush 9, 2), (69, .iload_n 1, 1), (70, .invokespecial 183, 3), (73, .areturn, 1)]
def X79 : MT := (k79, pl4, (some (FieldType.object "PathHouse$Term")), false, [])
theorem k79_d : ∀ q ∈ k79, decode cX4_readArgument q.1 = .ok q.2 := by decide +kernel
theorem X79_ok : CodeOK (Mof mE79) X79 := ⟨code_1 k79_d (by decide +kernel), rfl, fun h => absurd h (by decide), Or.inl ⟨rfl, rfl⟩, thr_0 (by decide +kernel)⟩
def k80 : Code1 := [(0, .aload_n 0, 1), (1, .getfield 9, 3), (4, .invokevirtual 25, 3), (7, .bipush 38, 2), (9, .if_icmp .eq 15, 3), (12, .aload_n 0, 1), (13, .getfield 9, 3), (16, .invokevirtual 25, 3), (19, .bipush 124, 2), (21, .if_icmp .ne 7, 3), (24, .iconst 1, 1), (25, .goto 4, 3), (28, .iconst 0, 1), (29, .istore_n 2, 1), (30, .iload_n 2, 1), (31, .ifCond .eq 11, 3), (34, .aload_n 1, 1), (35, .getfield 229, 3), (38, .iconst 3, 1), (39, .if_icmp .ne 17, 3), (42, .aload_n 1, 1), (43, .invokevirtual 220, 3), (46, .ifCond .eq 14, 3), (49, .aload_n 0, 1), (50, .invokevirtual 223, 3), (53, .ifCond .eq 7, 3), (56, .iconst 1, 1), (57, .goto 4, 3), (60, .iconst 0, 1), (61, .ireturn, 1)]
def X80 : MT := (k80, pl4, (some FieldType.boolean), false, [])
theorem k80_d : ∀ q ∈ k80, decode cX4_goesOnAsOr q.1 = .ok q.2 := by decide +kernel
theorem X80_ok : CodeOK (Mof mE80) X80 := ⟨code_1 k80_d (by decide +kernel), rfl, fun h => absurd h (by decide), Or.inl ⟨rfl, rfl⟩, thr_0 (by decide +kernel)⟩
def k81 : Code1 := [(0, .aload_n 0, 1), (1, .invokespecial 3, 3), (4, .aload_n 0, 1), (5, .sipush 1200, 3), (8, .newarray .int, 2), (10, .putfield 9, 3), (13, .aload_n 0, 1), (14, .iconst (-1), 1), (15, .putfield 15, 3), (18, .aload_n 0, 1), (19, .aload_n 1, 1), (20, .putfield 19, 3), (23, .return_, 1)]
def X81 : MT := (k81, pl5, none, true, [])
theorem k81_d : ∀ q ∈ k81, decode cX5_init q.1 = .ok q.2 := by decide +kernel
theorem X81_ok : CodeOK (Mof mE81) X81 := ⟨code_1 k81_d (by decide +kernel), rfl, fun _ => rfl, Or.inl ⟨rfl, rfl⟩, thr_0 (by decide +kernel)⟩
def k82 : Code1 := [(0, .aload_n 0, 1), (1, .iload_n 1, 1), (2, .aload_n 0, 1), (3, .getfield 19, 3), (6, .arraylength, 1), (7, .invokestatic 23, 3), (10, .putfield 29, 3), (13, .aload_n 0, 1), (14, .iconst 0, 1), (15, .putfield 32, 3), (18, .aload_n 0, 1), (19, .iconst 0, 1), (20, .putfield 35, 3), (23, .aload_n 0, 1), (24, .iconst (-1), 1), (25, .putfield 15, 3), (28, .return_, 1)]
def X82 : MT := (k82, pl5, none, false, [])
theorem k82_d : ∀ q ∈ k82, decode cX5_begin q.1 = .ok q.2 := by decide +kernel
theorem X82_ok : CodeOK (Mof mE82) X82 := ⟨code_1 k82_d (by decide +kernel), rfl, fun h => absurd h (by decide), Or.inl ⟨rfl, rfl⟩, thr_0 (by decide +kernel)⟩
def k83 : Code1 := [(0, .aload_n 0, 1), (1, .iload_n 1, 1), (2, .putfield 35, 3), (5, .aload_n 0, 1), (6, .iload_n 2, 1), (7, .putfield 15, 3), (10, .new 38, 3), (13, .dup, 1), (14, .ldc 40, 2), (16, .invokespecial 42, 3), (19, .athrow, 1)]
def X83 : MT := (k83, pl5, none, false, [])
theorem k83_d : ∀ q ∈ k83, decode cX5_fail q.1 = .ok q.2 := by decide +kernel
-- thrower 83
theorem tw83_ : TW (Mof mE83) 38 40 42 0 6 "the text has a fault" := ⟨gw (tw1 (i := 238) rfl) rfl, gw (tw1 (i := 15) rfl) rfl, by decide +kernel, by decide +kernel, by decide +kernel, by decide +kernel, by decide +kernel, by decide +kernel, by decide +kernel⟩
theorem thr83 : ∀ pc ik l0 kd is l4 ic l6, X83.1.lookup pc = some (.new ik, l0) → X83.2.1.2.2.1.lookup ik = some kd → ¬ kd < 100 → X83.1.lookup (pc + 4) = some (.ldc is, l4) → X83.1.lookup (pc + 6) = some (.invokespecial ic, l6) → ∃ e9 sn text, e9 < 3 ∧ kd = 200 + e9 ∧ TW (Mof mE83) ik is ic e9 sn text := by
  intro pc ik l0 kd is l4 ic l6 h1 h2 h3 h4 h5
  have hm := lk_in' h1
  have hm2 : (pc, Instr.new ik, l0) ∈ k83 := hm
  simp [k83] at hm2
  obtain ⟨rfl, rfl, rfl⟩ := hm2
  have h2' : some 200 = some kd := h2
  have h4' : some (Instr.ldc 40, 2) = some (Instr.ldc is, l4) := h4
  have h5' : some (Instr.invokespecial 42, 3) = some (Instr.invokespecial ic, l6) := h5
  cases h2'; cases h4'; cases h5'
  exact ⟨0, _, _, by decide, rfl, tw83_⟩
theorem X83_ok : CodeOK (Mof mE83) X83 := ⟨code_1 k83_d (by decide +kernel), rfl, fun h => absurd h (by decide), Or.inl ⟨rfl, rfl⟩, thr83⟩
def k84 : Code1 := [(0, .iload_n 1, 1), (1, .ifCond .lt 33, 3), (4, .iload_n 1, 1), (5, .aload_n 0, 1), (6, .getfield 29, 3), (9, .if_icmp .ge 25, 3), (12, .iload_n 1, 1), (13, .aload_n 0, 1), (14, .getfield 19, 3), (17, .arraylength, 1), (18, .if_icmp .ge 16, 3), (21, .aload_n 0, 1), (22, .getfield 19, 3), (25, .iload_n 1, 1), (26, .baload, 1), (27, .sipush 255, 3), (30, .iand, 1), (31, .goto 4, 3), (34, .iconst (-1), 1), (35, .ireturn, 1)]
def X84 : MT := (k84, pl5, (some FieldType.int), false, [])
theorem k84_d : ∀ q ∈ k84, decode cX5_byteAt q.1 = .ok q.2 := by decide +kernel
theorem X84_ok : CodeOK (Mof mE84) X84 := ⟨code_1 k84_d (by decide +kernel), rfl, fun h => absurd h (by decide), Or.inl ⟨rfl, rfl⟩, thr_0 (by decide +kernel)⟩
def k85 : Code1 := [(0, .aload_n 0, 1), (1, .getfield 32, 3), (4, .ifCond .lt 42, 3), (7, .aload_n 0, 1), (8, .getfield 32, 3), (11, .aload_n 0, 1), (12, .getfield 29, 3), (15, .if_icmp .ge 31, 3), (18, .aload_n 0, 1), (19, .getfield 32, 3), (22, .aload_n 0, 1), (23, .getfield 19, 3), (26, .arraylength, 1), (27, .if_icmp .ge 19, 3), (30, .aload_n 0, 1), (31, .getfield 19, 3), (34, .aload_n 0, 1), (35, .getfield 32, 3), (38, .baload, 1), (39, .sipush 255, 3), (42, .iand, 1), (43, .goto 4, 3), (46, .iconst (-1), 1), (47, .ireturn, 1)]
def X85 : MT := (k85, pl5, (some FieldType.int), false, [])
theorem k85_d : ∀ q ∈ k85, decode cX5_here q.1 = .ok q.2 := by decide +kernel
theorem X85_ok : CodeOK (Mof mE85) X85 := ⟨code_1 k85_d (by decide +kernel), rfl, fun h => absurd h (by decide), Or.inl ⟨rfl, rfl⟩, thr_0 (by decide +kernel)⟩
def k86 : Code1 := [(0, .aload_n 0, 1), (1, .invokevirtual 45, 3), (4, .istore_n 1, 1), (5, .iload_n 1, 1), (6, .bipush 32, 2), (8, .if_icmp .eq 21, 3), (11, .iload_n 1, 1), (12, .bipush 9, 2), (14, .if_icmp .eq 15, 3), (17, .iload_n 1, 1), (18, .bipush 10, 2), (20, .if_icmp .eq 9, 3), (23, .iload_n 1, 1), (24, .bipush 13, 2), (26, .if_icmp .ne 7, 3), (29, .iconst 1, 1), (30, .goto 4, 3), (33, .iconst 0, 1), (34, .ireturn, 1)]
def X86 : MT := (k86, pl5, (some FieldType.boolean), false, [])
theorem k86_d : ∀ q ∈ k86, decode cX5_isBlank q.1 = .ok q.2 := by decide +kernel
theorem X86_ok : CodeOK (Mof mE86) X86 := ⟨code_1 k86_d (by decide +kernel), rfl, fun h => absurd h (by decide), Or.inl ⟨rfl, rfl⟩, thr_0 (by decide +kernel)⟩
def k87 : Code1 := [(0, .aload_n 0, 1), (1, .getfield 32, 3), (4, .aload_n 0, 1), (5, .getfield 29, 3), (8, .if_icmp .ge 23, 3), (11, .aload_n 0, 1), (12, .invokevirtual 49, 3), (15, .ifCond .eq 16, 3), (18, .aload_n 0, 1), (19, .dup, 1), (20, .getfield 32, 3), (23, .iconst 1, 1), (24, .iadd, 1), (25, .putfield 32, 3), (28, .goto (-28), 3), (31, .return_, 1)]
def X87 : MT := (k87, pl5, none, false, [])
theorem k87_d : ∀ q ∈ k87, decode cX5_skipBlanks q.1 = .ok q.2 := by decide +kernel
theorem X87_ok : CodeOK (Mof mE87) X87 := ⟨code_1 k87_d (by decide +kernel), rfl, fun h => absurd h (by decide), Or.inl ⟨rfl, rfl⟩, thr_0 (by decide +kernel)⟩
def k88 : Code1 := [(0, .aload_n 0, 1), (1, .invokevirtual 45, 3), (4, .iload_n 1, 1), (5, .if_icmp .eq 12, 3), (8, .aload_n 0, 1), (9, .iconst 1, 1), (10, .aload_n 0, 1), (11, .getfield 32, 3), (14, .invokevirtual 53, 3), (17, .aload_n 0, 1), (18, .dup, 1), (19, .getfield 32, 3), (22, .iconst 1, 1), (23, .iadd, 1), (24, .putfield 32, 3), (27, .return_, 1)]
def X88 : MT := (k88, pl5, none, false, [])
theorem k88_d : ∀ q ∈ k88, decode cX5_expect q.1 = .ok q.2 := by decide +kernel
theorem X88_ok : CodeOK (Mof mE88) X88 := ⟨code_1 k88_d (by decide +kernel), rfl, fun h => absurd h (by decide), Or.inl ⟨rfl, rfl⟩, thr_0 (by decide +kernel)⟩
def k89 : Code1 := [(0, .iconst 0, 1), (1, .istore_n 2, 1), (2, .iload_n 2, 1), (3, .aload_n 1, 1), (4, .invokevirtual 57, 3), (7, .if_icmp .ge 18, 3), (10, .aload_n 0, 1), (11, .aload_n 1, 1), (12, .iload_n 2, 1), (13, .invokevirtual 62, 3), (16, .invokevirtual 66, 3), (19, .iinc 2 1, 3), (22, .goto (-20), 3), (25, .return_, 1)]
def X89 : MT := (k89, pl5, none, false, [])
theorem k89_d : ∀ q ∈ k89, decode cX5_expectWord q.1 = .ok q.2 := by decide +kernel
theorem X89_ok : CodeOK (Mof mE89) X89 := ⟨code_1 k89_d (by decide +kernel), rfl, fun h => absurd h (by decide), Or.inl ⟨rfl, rfl⟩, thr_0 (by decide +kernel)⟩
end
section
def k90 : Code1 := [(0, .iload_n 2, 1), (1, .iload_n 1, 1), (2, .isub, 1), (3, .aload_n 3, 1), (4, .invokevirtual 57, 3), (7, .if_icmp .eq 5, 3), (10, .iconst 0, 1), (11, .ireturn, 1), (12, .iconst 0, 1), (13, .istore 4, 2), (15, .iload 4, 2), (17, .aload_n 3, 1), (18, .invokevirtual 57, 3), (21, .if_icmp .ge 28, 3), (24, .aload_n 0, 1), (25, .iload_n 1, 1), (26, .iload 4, 2), (28, .iadd, 1), (29, .invokevirtual 70, 3), (32, .aload_n 3, 1), (33, .iload 4, 2), (35, .invokevirtual 62, 3), (38, .if_icmp .eq 5, 3), (41, .iconst 0, 1), (42, .ireturn, 1), (43, .iinc 4 1, 3), (46, .goto (-31), 3), (49, .iconst 1, 1), (50, .ireturn, 1)]
def X90 : MT := (k90, pl5, (some FieldType.boolean), false, [])
theorem k90_d : ∀ q ∈ k90, decode cX5_isWord q.1 = .ok q.2 := by decide +kernel
theorem X90_ok : CodeOK (Mof mE90) X90 := ⟨code_1 k90_d (by decide +kernel), rfl, fun h => absurd h (by decide), Or.inl ⟨rfl, rfl⟩, thr_0 (by decide +kernel)⟩
def k91 : Code1 := [(0, .aload_n 0, 1), (1, .invokevirtual 74, 3), (4, .aload_n 0, 1), (5, .invokevirtual 45, 3), (8, .bipush 44, 2), (10, .if_icmp .eq 5, 3), (13, .iconst 0, 1), (14, .ireturn, 1), (15, .aload_n 0, 1), (16, .dup, 1), (17, .getfield 32, 3), (20, .iconst 1, 1), (21, .iadd, 1), (22, .putfield 32, 3), (25, .aload_n 0, 1), (26, .invokevirtual 74, 3), (29, .iconst 1, 1), (30, .ireturn, 1)]
def X91 : MT := (k91, pl5, (some FieldType.boolean), false, [])
theorem k91_d : ∀ q ∈ k91, decode cX5_takeComma q.1 = .ok q.2 := by decide +kernel
theorem X91_ok : CodeOK (Mof mE91) X91 := ⟨code_1 k91_d (by decide +kernel), rfl, fun h => absurd h (by decide), Or.inl ⟨rfl, rfl⟩, thr_0 (by decide +kernel)⟩
def k92 : Code1 := [(0, .aload_n 0, 1), (1, .invokevirtual 45, 3), (4, .bipush 45, 2), (6, .if_icmp .ne 7, 3), (9, .iconst 1, 1), (10, .goto 4, 3), (13, .iconst 0, 1), (14, .istore_n 2, 1), (15, .iload_n 2, 1), (16, .ifCond .eq 13, 3), (19, .aload_n 0, 1), (20, .dup, 1), (21, .getfield 32, 3), (24, .iconst 1, 1), (25, .iadd, 1), (26, .putfield 32, 3), (29, .aload_n 0, 1), (30, .invokevirtual 45, 3), (33, .istore_n 3, 1), (34, .iload_n 3, 1), (35, .invokestatic 77, 3), (38, .ifCond .eq 17, 3), (41, .iload_n 3, 1), (42, .bipush 48, 2), (44, .if_icmp .ne 20, 3), (47, .iload_n 2, 1), (48, .ifCond .eq 16, 3), (51, .iload_n 1, 1), (52, .ifCond .ne 12, 3), (55, .aload_n 0, 1), (56, .iconst 1, 1), (57, .aload_n 0, 1), (58, .getfield 32, 3), (61, .invokevirtual 53, 3), (64, .iload_n 3, 1), (65, .bipush 48, 2), (67, .if_icmp .ne 15, 3), (70, .aload_n 0, 1), (71, .dup, 1), (72, .getfield 32, 3), (75, .iconst 1, 1), (76, .iadd, 1), (77, .putfield 32, 3), (80, .lconst 0, 1), (81, .lreturn, 1), (82, .lconst 0, 1), (83, .lstore 4, 2), (85, .aload_n 0, 1), (86, .getfield 32, 3), (89, .aload_n 0, 1), (90, .getfield 29, 3), (93, .if_icmp .ge 49, 3), (96, .aload_n 0, 1), (97, .invokevirtual 45, 3), (100, .invokestatic 77, 3), (103, .ifCond .eq 39, 3), (106, .lload 4, 2), (108, .ldc2_w 81, 3), (111, .lmul, 1), (112, .aload_n 0, 1), (113, .invokevirtual 45, 3), (116, .bipush 48, 2), (118, .isub, 1), (119, .i2l, 1), (120, .ladd, 1), (121, .ldc2_w 83, 3), (124, .invokestatic 85, 3), (127, .lstore 4, 2), (129, .aload_n 0, 1), (130, .dup, 1), (131, .getfield 32, 3), (134, .iconst 1, 1), (135, .iadd, 1), (136, .putfield 32, 3), (139, .goto (-54), 3), (142, .iload_n 2, 1), (143, .ifCond .eq 9, 3), (146, .lload 4, 2), (148, .lneg, 1), (149, .goto 5, 3), (152, .lload 4, 2), (154, .lreturn, 1)]
def X92 : MT := (k92, pl5, (some FieldType.long), false, [])
theorem k92_d : ∀ q ∈ k92, decode cX5_wholeNumber q.1 = .ok q.2 := by decide +kernel
theorem X92_ok : CodeOK (Mof mE92) X92 := ⟨code_1 k92_d (by decide +kernel), rfl, fun h => absurd h (by decide), Or.inl ⟨rfl, rfl⟩, thr_0 (by decide +kernel)⟩
def k93 : Code1 := [(0, .aload_n 0, 1), (1, .getfield 88, 3), (4, .aload_n 0, 1), (5, .getfield 9, 3), (8, .arraylength, 1), (9, .if_icmp .ge 23, 3), (12, .aload_n 0, 1), (13, .getfield 9, 3), (16, .aload_n 0, 1), (17, .getfield 88, 3), (20, .iload_n 1, 1), (21, .iastore, 1), (22, .aload_n 0, 1), (23, .dup, 1), (24, .getfield 88, 3), (27, .iconst 1, 1), (28, .iadd, 1), (29, .putfield 88, 3), (32, .return_, 1)]
def X93 : MT := (k93, pl5, none, false, [])
theorem k93_d : ∀ q ∈ k93, decode cX5_keep q.1 = .ok q.2 := by decide +kernel
theorem X93_ok : CodeOK (Mof mE93) X93 := ⟨code_1 k93_d (by decide +kernel), rfl, fun h => absurd h (by decide), Or.inl ⟨rfl, rfl⟩, thr_0 (by decide +kernel)⟩
def k94 : Code1 := [(0, .aload_n 0, 1), (1, .getfield 9, 3), (4, .aload_n 0, 1), (5, .getfield 88, 3), (8, .invokestatic 91, 3), (11, .areturn, 1)]
def X94 : MT := (k94, pl5, (some (FieldType.array FieldType.int)), false, [])
theorem k94_d : ∀ q ∈ k94, decode cX5_kept q.1 = .ok q.2 := by decide +kernel
theorem X94_ok : CodeOK (Mof mE94) X94 := ⟨code_1 k94_d (by decide +kernel), rfl, fun h => absurd h (by decide), Or.inl ⟨rfl, rfl⟩, thr_0 (by decide +kernel)⟩
def k95 : Code1 := [(0, .aload_n 0, 1), (1, .invokevirtual 45, 3), (4, .istore_n 1, 1), (5, .aload_n 0, 1), (6, .iconst 0, 1), (7, .putfield 88, 3), (10, .aload_n 0, 1), (11, .dup, 1), (12, .getfield 32, 3), (15, .iconst 1, 1), (16, .iadd, 1), (17, .putfield 32, 3), (20, .iconst 0, 1), (21, .istore_n 2, 1), (22, .iload_n 2, 1), (23, .aload_n 0, 1), (24, .getfield 29, 3), (27, .if_icmp .ge 60, 3), (30, .aload_n 0, 1), (31, .invokevirtual 45, 3), (34, .iload_n 1, 1), (35, .if_icmp .eq 52, 3), (38, .aload_n 0, 1), (39, .invokevirtual 45, 3), (42, .bipush 32, 2), (44, .if_icmp .ge 12, 3), (47, .aload_n 0, 1), (48, .iconst 1, 1), (49, .aload_n 0, 1), (50, .getfield 32, 3), (53, .invokevirtual 53, 3), (56, .aload_n 0, 1), (57, .aload_n 0, 1), (58, .invokevirtual 45, 3), (61, .bipush 92, 2), (63, .if_icmp .ne 11, 3), (66, .aload_n 0, 1), (67, .iload_n 1, 1), (68, .invokevirtual 97, 3), (71, .goto 7, 3), (74, .aload_n 0, 1), (75, .invokevirtual 100, 3), (78, .invokevirtual 103, 3), (81, .iinc 2 1, 3), (84, .goto (-62), 3), (87, .aload_n 0, 1), (88, .iload_n 1, 1), (89, .invokevirtual 66, 3), (92, .aload_n 0, 1), (93, .invokevirtual 106, 3), (96, .areturn, 1)]
def X95 : MT := (k95, pl5, (some (FieldType.array FieldType.int)), false, [])
theorem k95_d : ∀ q ∈ k95, decode cX5_string q.1 = .ok q.2 := by decide +kernel
theorem X95_ok : CodeOK (Mof mE95) X95 := ⟨code_1 k95_d (by decide +kernel), rfl, fun h => absurd h (by decide), Or.inl ⟨rfl, rfl⟩, thr_0 (by decide +kernel)⟩
def k96 : Code1 := [(0, .aload_n 0, 1), (1, .iconst 0, 1), (2, .putfield 88, 3), (5, .iconst 0, 1), (6, .istore_n 1, 1), (7, .iload_n 1, 1), (8, .aload_n 0, 1), (9, .getfield 29, 3), (12, .if_icmp .ge 36, 3), (15, .aload_n 0, 1), (16, .invokevirtual 45, 3), (19, .iload_n 1, 1), (20, .ifCond .le 7, 3), (23, .iconst 1, 1), (24, .goto 4, 3), (27, .iconst 0, 1), (28, .invokestatic 110, 3), (31, .ifCond .eq 17, 3), (34, .aload_n 0, 1), (35, .aload_n 0, 1), (36, .invokevirtual 100, 3), (39, .invokevirtual 103, 3), (42, .iinc 1 1, 3), (45, .goto (-38), 3), (48, .aload_n 0, 1), (49, .getfield 88, 3), (52, .ifCond .ne 12, 3), (55, .aload_n 0, 1), (56, .iconst 1, 1), (57, .aload_n 0, 1), (58, .getfield 32, 3), (61, .invokevirtual 53, 3), (64, .aload_n 0, 1), (65, .invokevirtual 106, 3), (68, .areturn, 1)]
def X96 : MT := (k96, pl5, (some (FieldType.array FieldType.int)), false, [])
theorem k96_d : ∀ q ∈ k96, decode cX5_plainName q.1 = .ok q.2 := by decide +kernel
theorem X96_ok : CodeOK (Mof mE96) X96 := ⟨code_1 k96_d (by decide +kernel), rfl, fun h => absurd h (by decide), Or.inl ⟨rfl, rfl⟩, thr_0 (by decide +kernel)⟩
def k97 : Code1 := [(0, .iload_n 0, 1), (1, .invokestatic 114, 3), (4, .ifCond .ne 27, 3), (7, .iload_n 0, 1), (8, .bipush 95, 2), (10, .if_icmp .eq 21, 3), (13, .iload_n 0, 1), (14, .sipush 128, 3), (17, .if_icmp .ge 14, 3), (20, .iload_n 1, 1), (21, .ifCond .eq 14, 3), (24, .iload_n 0, 1), (25, .invokestatic 77, 3), (28, .ifCond .eq 7, 3), (31, .iconst 1, 1), (32, .goto 4, 3), (35, .iconst 0, 1), (36, .ireturn, 1)]
def X97 : MT := (k97, pl5, (some FieldType.boolean), false, [])
theorem k97_d : ∀ q ∈ k97, decode cX5_isNamed q.1 = .ok q.2 := by decide +kernel
theorem X97_ok : CodeOK (Mof mE97) X97 := ⟨code_1 k97_d (by decide +kernel), rfl, fun h => absurd h (by decide), Or.inl ⟨rfl, rfl⟩, thr_0 (by decide +kernel)⟩
def k98 : Code1 := [(0, .aload_n 0, 1), (1, .dup, 1), (2, .getfield 32, 3), (5, .iconst 1, 1), (6, .iadd, 1), (7, .putfield 32, 3), (10, .aload_n 0, 1), (11, .invokevirtual 45, 3), (14, .istore_n 2, 1), (15, .iload_n 2, 1), (16, .iload_n 1, 1), (17, .if_icmp .eq 15, 3), (20, .iload_n 2, 1), (21, .bipush 92, 2), (23, .if_icmp .eq 9, 3), (26, .iload_n 2, 1), (27, .bipush 47, 2), (29, .if_icmp .ne 7, 3), (32, .iload_n 2, 1), (33, .goto 7, 3), (36, .iload_n 2, 1), (37, .invokestatic 117, 3), (40, .istore_n 3, 1), (41, .iload_n 3, 1), (42, .ifCond .ge 18, 3), (45, .iload_n 2, 1), (46, .bipush 117, 2), (48, .if_icmp .eq 12, 3), (51, .aload_n 0, 1), (52, .iconst 1, 1), (53, .aload_n 0, 1), (54, .getfield 32, 3), (57, .invokevirtual 53, 3), (60, .aload_n 0, 1), (61, .dup, 1), (62, .getfield 32, 3), (65, .iconst 1, 1), (66, .iadd, 1), (67, .putfield 32, 3), (70, .iload_n 2, 1), (71, .bipush 117, 2), (73, .if_icmp .eq 5, 3), (76, .iload_n 3, 1), (77, .ireturn, 1), (78, .aload_n 0, 1), (79, .iconst 0, 1), (80, .invokevirtual 120, 3), (83, .istore_n 3, 1), (84, .iload_n 3, 1), (85, .ldc 124, 2), (87, .if_icmp .lt 9, 3), (90, .iload_n 3, 1), (91, .ldc 125, 2), (93, .if_icmp .le 5, 3), (96, .iload_n 3, 1), (97, .ireturn, 1), (98, .aload_n 0, 1), (99, .bipush 92, 2), (101, .invokevirtual 66, 3), (104, .aload_n 0, 1), (105, .bipush 117, 2), (107, .invokevirtual 66, 3), (110, .ldc 126, 2), (112, .iload_n 3, 1), (113, .sipush 1023, 3), (116, .iand, 1), (117, .bipush 10, 2), (119, .ishl, 1), (120, .iadd, 1), (121, .aload_n 0, 1), (122, .iconst 1, 1), (123, .invokevirtual 120, 3), (126, .sipush 1023, 3), (129, .iand, 1), (130, .iadd, 1), (131, .ireturn, 1)]
def X98 : MT := (k98, pl5, (some FieldType.int), false, [])
theorem k98_d : ∀ q ∈ k98, decode cX5_escaped q.1 = .ok q.2 := by decide +kernel
theorem X98_ok : CodeOK (Mof mE98) X98 := ⟨code_1 k98_d (by decide +kernel), rfl, fun h => absurd h (by decide), Or.inl ⟨rfl, rfl⟩, thr_0 (by decide +kernel)⟩
def k99 : Code1 := [(0, .iload_n 0, 1), (1, .lookupswitch 66 #[(98, 51), (102, 54), (110, 57), (114, 60), (116, 63)], 51), (52, .bipush 8, 2), (54, .ireturn, 1), (55, .bipush 12, 2), (57, .ireturn, 1), (58, .bipush 10, 2), (60, .ireturn, 1), (61, .bipush 13, 2), (63, .ireturn, 1), (64, .bipush 9, 2), (66, .ireturn, 1), (67, .iconst (-1), 1), (68, .ireturn, 1)]
def X99 : MT := (k99, pl5, (some FieldType.int), false, [])
theorem k99_d : ∀ q ∈ k99, decode cX5_control q.1 = .ok q.2 := by decide +kernel
theorem X99_ok : CodeOK (Mof mE99) X99 := ⟨code_1 k99_d (by decide +kernel), rfl, fun h => absurd h (by decide), Or.inl ⟨rfl, rfl⟩, thr_0 (by decide +kernel)⟩
def k100 : Code1 := [(0, .iconst 0, 1), (1, .istore_n 2, 1), (2, .iconst 0, 1), (3, .istore_n 3, 1), (4, .iload_n 3, 1), (5, .iconst 4, 1), (6, .if_icmp .ge 112, 3), (9, .aload_n 0, 1), (10, .invokevirtual 45, 3), (13, .invokestatic 127, 3), (16, .istore 4, 2), (18, .iload_n 2, 1), (19, .iconst 4, 1), (20, .ishl, 1), (21, .iload 4, 2), (23, .ior, 1), (24, .istore_n 2, 1), (25, .iload_n 3, 1), (26, .ifCond .ne 22, 3), (29, .iload_n 1, 1), (30, .ifCond .eq 10, 3), (33, .iload 4, 2), (35, .bipush 13, 2), (37, .if_icmp .ne 7, 3), (40, .iconst 1, 1), (41, .goto 40, 3), (44, .iconst 0, 1), (45, .goto 36, 3), (48, .iload_n 3, 1), (49, .iconst 1, 1), (50, .if_icmp .gt 26, 3), (53, .iload_n 1, 1), (54, .iload_n 2, 1), (55, .sipush 220, 3), (58, .if_icmp .lt 14, 3), (61, .iload_n 2, 1), (62, .sipush 223, 3), (65, .if_icmp .gt 7, 3), (68, .iconst 1, 1), (69, .goto 4, 3), (72, .iconst 0, 1), (73, .if_icmp .ne 7, 3), (76, .iconst 1, 1), (77, .goto 4, 3), (80, .iconst 0, 1), (81, .istore 5, 2), (83, .iload 4, 2), (85, .ifCond .lt 8, 3), (88, .iload 5, 2), (90, .ifCond .ne 12, 3), (93, .aload_n 0, 1), (94, .iconst 1, 1), (95, .aload_n 0, 1), (96, .getfield 32, 3), (99, .invokevirtual 53, 3), (102, .aload_n 0, 1), (103, .dup, 1), (104, .getfield 32, 3), (107, .iconst 1, 1), (108, .iadd, 1), (109, .putfield 32, 3), (112, .iinc 3 1, 3), (115, .goto (-111), 3), (118, .iload_n 2, 1), (119, .ireturn, 1)]
def X100 : MT := (k100, pl5, (some FieldType.int), false, [])
theorem k100_d : ∀ q ∈ k100, decode cX5_hexFour q.1 = .ok q.2 := by decide +kernel
theorem X100_ok : CodeOK (Mof mE100) X100 := ⟨code_1 k100_d (by decide +kernel), rfl, fun h => absurd h (by decide), Or.inl ⟨rfl, rfl⟩, thr_0 (by decide +kernel)⟩
def k101 : Code1 := [(0, .iload_n 0, 1), (1, .bipush 48, 2), (3, .if_icmp .lt 14, 3), (6, .iload_n 0, 1), (7, .bipush 57, 2), (9, .if_icmp .gt 8, 3), (12, .iload_n 0, 1), (13, .bipush 48, 2), (15, .isub, 1), (16, .ireturn, 1), (17, .iload_n 0, 1), (18, .bipush 97, 2), (20, .if_icmp .lt 17, 3), (23, .iload_n 0, 1), (24, .bipush 102, 2), (26, .if_icmp .gt 11, 3), (29, .iload_n 0, 1), (30, .bipush 97, 2), (32, .isub, 1), (33, .bipush 10, 2), (35, .iadd, 1), (36, .ireturn, 1), (37, .iload_n 0, 1), (38, .bipush 65, 2), (40, .if_icmp .lt 19, 3), (43, .iload_n 0, 1), (44, .bipush 70, 2), (46, .if_icmp .gt 13, 3), (49, .iload_n 0, 1), (50, .bipush 65, 2), (52, .isub, 1), (53, .bipush 10, 2), (55, .iadd, 1), (56, .goto 4, 3), (59, .iconst (-1), 1), (60, .ireturn, 1)]
def X101 : MT := (k101, pl5, (some FieldType.int), false, [])
theorem k101_d : ∀ q ∈ k101, decode cX5_hexValue q.1 = .ok q.2 := by decide +kernel
theorem X101_ok : CodeOK (Mof mE101) X101 := ⟨code_1 k101_d (by decide +kernel), rfl, fun h => absurd h (by decide), Or.inl ⟨rfl, rfl⟩, thr_0 (by decide +kernel)⟩
def k102 : Code1 := [(0, .aload_n 0, 1), (1, .invokevirtual 45, 3), (4, .istore_n 1, 1), (5, .iload_n 1, 1), (6, .invokestatic 130, 3), (9, .istore_n 2, 1), (10, .iload_n 2, 1), (11, .ifCond .le 12, 3), (14, .iload_n 1, 1), (15, .bipush 63, 2), (17, .iload_n 2, 1), (18, .ishr, 1), (19, .iand, 1), (20, .goto 4, 3), (23, .iload_n 1, 1), (24, .istore_n 3, 1), (25, .iload_n 2, 1), (26, .ifCond .lt 7, 3), (29, .iconst 1, 1), (30, .goto 4, 3), (33, .iconst 0, 1), (34, .istore 4, 2), (36, .iconst 1, 1), (37, .istore 5, 2), (39, .iload 5, 2), (41, .iload_n 2, 1), (42, .if_icmp .gt 61, 3), (45, .aload_n 0, 1), (46, .aload_n 0, 1), (47, .getfield 32, 3), (50, .iload 5, 2), (52, .iadd, 1), (53, .invokevirtual 70, 3), (56, .istore 6, 2), (58, .iload 4, 2), (60, .ifCond .eq 23, 3), (63, .iload 6, 2), (65, .sipush 128, 3), (68, .if_icmp .lt 15, 3), (71, .iload 6, 2), (73, .sipush 192, 3), (76, .if_icmp .ge 7, 3), (79, .iconst 1, 1), (80, .goto 4, 3), (83, .iconst 0, 1), (84, .istore 4, 2), (86, .iload_n 3, 1), (87, .bipush 6, 2), (89, .ishl, 1), (90, .iload 6, 2), (92, .bipush 63, 2), (94, .iand, 1), (95, .ior, 1), (96, .istore_n 3, 1), (97, .iinc 5 1, 3), (100, .goto (-61), 3), (103, .iload 4, 2), (105, .ifCond .eq 11, 3), (108, .iload_n 3, 1), (109, .iload_n 2, 1), (110, .invokestatic 133, 3), (113, .ifCond .ne 12, 3), (116, .aload_n 0, 1), (117, .iconst 1, 1), (118, .aload_n 0, 1), (119, .getfield 32, 3), (122, .invokevirtual 53, 3), (125, .aload_n 0, 1), (126, .dup, 1), (127, .getfield 32, 3), (130, .iconst 1, 1), (131, .iload_n 2, 1), (132, .iadd, 1), (133, .iadd, 1), (134, .putfield 32, 3), (137, .iload_n 3, 1), (138, .ireturn, 1)]
def X102 : MT := (k102, pl5, (some FieldType.int), false, [])
theorem k102_d : ∀ q ∈ k102, decode cX5_codePoint q.1 = .ok q.2 := by decide +kernel
theorem X102_ok : CodeOK (Mof mE102) X102 := ⟨code_1 k102_d (by decide +kernel), rfl, fun h => absurd h (by decide), Or.inl ⟨rfl, rfl⟩, thr_0 (by decide +kernel)⟩
def k103 : Code1 := [(0, .iload_n 0, 1), (1, .ifCond .lt 12, 3), (4, .iload_n 0, 1), (5, .sipush 128, 3), (8, .if_icmp .ge 5, 3), (11, .iconst 0, 1), (12, .ireturn, 1), (13, .iload_n 0, 1), (14, .sipush 192, 3), (17, .if_icmp .lt 12, 3), (20, .iload_n 0, 1), (21, .sipush 224, 3), (24, .if_icmp .ge 5, 3), (27, .iconst 1, 1), (28, .ireturn, 1), (29, .iload_n 0, 1), (30, .sipush 224, 3), (33, .if_icmp .lt 12, 3), (36, .iload_n 0, 1), (37, .sipush 240, 3), (40, .if_icmp .ge 5, 3), (43, .iconst 2, 1), (44, .ireturn, 1), (45, .iload_n 0, 1), (46, .sipush 240, 3), (49, .if_icmp .lt 14, 3), (52, .iload_n 0, 1), (53, .sipush 248, 3), (56, .if_icmp .ge 7, 3), (59, .iconst 3, 1), (60, .goto 4, 3), (63, .iconst (-1), 1), (64, .ireturn, 1)]
def X103 : MT := (k103, pl5, (some FieldType.int), false, [])
theorem k103_d : ∀ q ∈ k103, decode cX5_followers q.1 = .ok q.2 := by decide +kernel
theorem X103_ok : CodeOK (Mof mE103) X103 := ⟨code_1 k103_d (by decide +kernel), rfl, fun h => absurd h (by decide), Or.inl ⟨rfl, rfl⟩, thr_0 (by decide +kernel)⟩
def k104 : Code1 := [(0, .iload_n 1, 1), (1, .tableswitch 83 1 3 #[27, 40, 65], 27), (28, .iload_n 0, 1), (29, .sipush 128, 3), (32, .if_icmp .lt 7, 3), (35, .iconst 1, 1), (36, .goto 4, 3), (39, .iconst 0, 1), (40, .ireturn, 1), (41, .iload_n 0, 1), (42, .sipush 2048, 3), (45, .if_icmp .lt 19, 3), (48, .iload_n 0, 1), (49, .ldc 124, 2), (51, .if_icmp .lt 9, 3), (54, .iload_n 0, 1), (55, .ldc 137, 2), (57, .if_icmp .le 7, 3), (60, .iconst 1, 1), (61, .goto 4, 3), (64, .iconst 0, 1), (65, .ireturn, 1), (66, .iload_n 0, 1), (67, .ldc 126, 2), (69, .if_icmp .lt 13, 3), (72, .iload_n 0, 1), (73, .ldc 138, 2), (75, .if_icmp .gt 7, 3), (78, .iconst 1, 1), (79, .goto 4, 3), (82, .iconst 0, 1), (83, .ireturn, 1), (84, .iconst 1, 1), (85, .ireturn, 1)]
def X104 : MT := (k104, pl5, (some FieldType.boolean), false, [])
theorem k104_d : ∀ q ∈ k104, decode cX5_isShortest q.1 = .ok q.2 := by decide +kernel
theorem X104_ok : CodeOK (Mof mE104) X104 := ⟨code_1 k104_d (by decide +kernel), rfl, fun h => absurd h (by decide), Or.inl ⟨rfl, rfl⟩, thr_0 (by decide +kernel)⟩
def k105 : Code1 := [(0, .aload_n 0, 1), (1, .invokespecial 3, 3), (4, .aload_n 0, 1), (5, .sipush 1000, 3), (8, .anewarray 9, 3), (11, .putfield 11, 3), (14, .return_, 1)]
def X105 : MT := (k105, pl6, none, true, [])
theorem k105_d : ∀ q ∈ k105, decode cX6_init q.1 = .ok q.2 := by decide +kernel
theorem X105_ok : CodeOK (Mof mE105) X105 := ⟨code_1 k105_d (by decide +kernel), rfl, fun _ => rfl, Or.inl ⟨rfl, rfl⟩, thr_0 (by decide +kernel)⟩
def k106 : Code1 := [(0, .iload_n 1, 1), (1, .ifCond .lt 29, 3), (4, .iload_n 1, 1), (5, .aload_n 0, 1), (6, .getfield 17, 3), (9, .if_icmp .ge 21, 3), (12, .iload_n 1, 1), (13, .aload_n 0, 1), (14, .getfield 11, 3), (17, .arraylength, 1), (18, .if_icmp .ge 12, 3), (21, .aload_n 0, 1), (22, .getfield 11, 3), (25, .iload_n 1, 1), (26, .aaload, 1), (27, .goto 4, 3), (30, .aconst_null, 1), (31, .areturn, 1)]
def X106 : MT := (k106, pl6, (some (FieldType.object "PathHouse$Node")), false, [])
theorem k106_d : ∀ q ∈ k106, decode cX6_get q.1 = .ok q.2 := by decide +kernel
theorem X106_ok : CodeOK (Mof mE106) X106 := ⟨code_1 k106_d (by decide +kernel), rfl, fun h => absurd h (by decide), Or.inl ⟨rfl, rfl⟩, thr_0 (by decide +kernel)⟩
def k107 : Code1 := [(0, .aload_n 0, 1), (1, .getfield 17, 3), (4, .aload_n 0, 1), (5, .getfield 11, 3), (8, .arraylength, 1), (9, .if_icmp .lt 5, 3), (12, .iconst 0, 1), (13, .ireturn, 1), (14, .aload_n 0, 1), (15, .getfield 11, 3), (18, .aload_n 0, 1), (19, .getfield 17, 3), (22, .aload_n 1, 1), (23, .aastore, 1), (24, .aload_n 0, 1), (25, .dup, 1), (26, .getfield 17, 3), (29, .iconst 1, 1), (30, .iadd, 1), (31, .putfield 17, 3), (34, .iconst 1, 1), (35, .ireturn, 1)]
def X107 : MT := (k107, pl6, (some FieldType.boolean), false, [])
theorem k107_d : ∀ q ∈ k107, decode cX6_add q.1 = .ok q.2 := by decide +kernel
theorem X107_ok : CodeOK (Mof mE107) X107 := ⟨code_1 k107_d (by decide +kernel), rfl, fun h => absurd h (by decide), Or.inl ⟨rfl, rfl⟩, thr_0 (by decide +kernel)⟩
def k108 : Code1 := [(0, .aload_n 0, 1), (1, .invokespecial 1, 3), (4, .aload_n 0, 1), (5, .new 7, 3), (8, .dup, 1), (9, .invokespecial 9, 3), (12, .putfield 10, 3), (15, .return_, 1)]
def X108 : MT := (k108, pl7, none, true, [])
theorem k108_d : ∀ q ∈ k108, decode cX7_init q.1 = .ok q.2 := by decide +kernel
theorem X108_ok : CodeOK (Mof mE108) X108 := ⟨code_1 k108_d (by decide +kernel), rfl, fun _ => rfl, Or.inl ⟨rfl, rfl⟩, thr_0 (by decide +kernel)⟩
def k109 : Code1 := [(0, .aload_n 0, 1), (1, .invokespecial 1, 3), (4, .aload_n 0, 1), (5, .lconst 1, 1), (6, .putfield 7, 3), (9, .aload_n 0, 1), (10, .iload_n 1, 1), (11, .putfield 13, 3), (14, .return_, 1)]
def X109 : MT := (k109, pl8, none, true, [])
theorem k109_d : ∀ q ∈ k109, decode cX8_init q.1 = .ok q.2 := by decide +kernel
theorem X109_ok : CodeOK (Mof mE109) X109 := ⟨code_1 k109_d (by decide +kernel), rfl, fun _ => rfl, Or.inl ⟨rfl, rfl⟩, thr_0 (by decide +kernel)⟩
def k110 : Code1 := [(0, .aload_n 0, 1), (1, .getfield 13, 3), (4, .ifCond .eq 11, 3), (7, .aload_n 0, 1), (8, .getfield 13, 3), (11, .iconst 2, 1), (12, .if_icmp .ne 7, 3), (15, .iconst 1, 1), (16, .goto 4, 3), (19, .iconst 0, 1), (20, .ireturn, 1)]
def X110 : MT := (k110, pl8, (some FieldType.boolean), false, [])
theorem k110_d : ∀ q ∈ k110, decode cX8_isSingular q.1 = .ok q.2 := by decide +kernel
theorem X110_ok : CodeOK (Mof mE110) X110 := ⟨code_1 k110_d (by decide +kernel), rfl, fun h => absurd h (by decide), Or.inl ⟨rfl, rfl⟩, thr_0 (by decide +kernel)⟩
def k111 : Code1 := [(0, .aload_n 0, 1), (1, .invokespecial 1, 3), (4, .aload_n 0, 1), (5, .iload_n 1, 1), (6, .putfield 7, 3), (9, .aload_n 0, 1), (10, .iload_n 2, 1), (11, .putfield 13, 3), (14, .aload_n 0, 1), (15, .iload_n 1, 1), (16, .ifCond .eq 8, 3), (19, .iload_n 1, 1), (20, .iconst 1, 1), (21, .if_icmp .ne 13, 3), (24, .new 16, 3), (27, .dup, 1), (28, .invokespecial 18, 3), (31, .goto 4, 3), (34, .aconst_null, 1), (35, .putfield 19, 3), (38, .return_, 1)]
def X111 : MT := (k111, pl9, none, true, [])
theorem k111_d : ∀ q ∈ k111, decode cX9_init q.1 = .ok q.2 := by decide +kernel
theorem X111_ok : CodeOK (Mof mE111) X111 := ⟨code_1 k111_d (by decide +kernel), rfl, fun _ => rfl, Or.inl ⟨rfl, rfl⟩, thr_0 (by decide +kernel)⟩
def k112 : Code1 := [(0, .aload_n 0, 1), (1, .getfield 19, 3), (4, .ifnonnull 7, 3), (7, .iconst 0, 1), (8, .goto 10, 3), (11, .aload_n 0, 1), (12, .getfield 19, 3), (15, .invokevirtual 23, 3), (18, .ireturn, 1)]
def X112 : MT := (k112, pl9, (some FieldType.int), false, [])
theorem k112_d : ∀ q ∈ k112, decode cX9_partCount q.1 = .ok q.2 := by decide +kernel
theorem X112_ok : CodeOK (Mof mE112) X112 := ⟨code_1 k112_d (by decide +kernel), rfl, fun h => absurd h (by decide), Or.inl ⟨rfl, rfl⟩, thr_0 (by decide +kernel)⟩
def k113 : Code1 := [(0, .iload_n 1, 1), (1, .ifCond .lt 25, 3), (4, .iload_n 1, 1), (5, .aload_n 0, 1), (6, .invokevirtual 27, 3), (9, .if_icmp .ge 17, 3), (12, .aload_n 0, 1), (13, .getfield 19, 3), (16, .iload_n 1, 1), (17, .invokevirtual 30, 3), (20, .checkcast 8, 3), (23, .goto 4, 3), (26, .aconst_null, 1), (27, .areturn, 1)]
def X113 : MT := (k113, pl9, (some (FieldType.object "PathHouse$Term")), false, [])
theorem k113_d : ∀ q ∈ k113, decode cX9_part q.1 = .ok q.2 := by decide +kernel
theorem X113_ok : CodeOK (Mof mE113) X113 := ⟨code_1 k113_d (by decide +kernel), rfl, fun h => absurd h (by decide), Or.inl ⟨rfl, rfl⟩, thr_0 (by decide +kernel)⟩
def k114 : Code1 := [(0, .aload_n 0, 1), (1, .invokevirtual 27, 3), (4, .iconst 1, 1), (5, .if_icmp .ne 11, 3), (8, .aload_n 0, 1), (9, .iconst 0, 1), (10, .invokevirtual 34, 3), (13, .goto 4, 3), (16, .aload_n 0, 1), (17, .areturn, 1)]
def X114 : MT := (k114, pl9, (some (FieldType.object "PathHouse$Term")), false, [])
theorem k114_d : ∀ q ∈ k114, decode cX9_simplest q.1 = .ok q.2 := by decide +kernel
theorem X114_ok : CodeOK (Mof mE114) X114 := ⟨code_1 k114_d (by decide +kernel), rfl, fun h => absurd h (by decide), Or.inl ⟨rfl, rfl⟩, thr_0 (by decide +kernel)⟩
def k115 : Code1 := [(0, .aload_n 0, 1), (1, .getfield 7, 3), (4, .iconst 5, 1), (5, .if_icmp .lt 16, 3), (8, .aload_n 0, 1), (9, .getfield 7, 3), (12, .bipush 8, 2), (14, .if_icmp .gt 7, 3), (17, .iconst 1, 1), (18, .goto 4, 3), (21, .iconst 0, 1), (22, .ireturn, 1)]
def X115 : MT := (k115, pl9, (some FieldType.boolean), false, [])
theorem k115_d : ∀ q ∈ k115, decode cX9_isFunction q.1 = .ok q.2 := by decide +kernel
theorem X115_ok : CodeOK (Mof mE115) X115 := ⟨code_1 k115_d (by decide +kernel), rfl, fun h => absurd h (by decide), Or.inl ⟨rfl, rfl⟩, thr_0 (by decide +kernel)⟩
def k116 : Code1 := [(0, .aload_n 0, 1), (1, .getfield 7, 3), (4, .iconst 3, 1), (5, .if_icmp .eq 35, 3), (8, .aload_n 0, 1), (9, .invokevirtual 38, 3), (12, .ifCond .ne 28, 3), (15, .aload_n 0, 1), (16, .getfield 7, 3), (19, .iconst 4, 1), (20, .if_icmp .ne 24, 3), (23, .aload_n 0, 1), (24, .getfield 42, 3), (27, .ifnull 17, 3), (30, .aload_n 0, 1), (31, .getfield 42, 3), (34, .getfield 46, 3), (37, .ifCond .eq 7, 3), (40, .iconst 1, 1), (41, .goto 4, 3), (44, .iconst 0, 1), (45, .ireturn, 1)]
def X116 : MT := (k116, pl9, (some FieldType.boolean), false, [])
theorem k116_d : ∀ q ∈ k116, decode cX9_isComparable q.1 = .ok q.2 := by decide +kernel
theorem X116_ok : CodeOK (Mof mE116) X116 := ⟨code_1 k116_d (by decide +kernel), rfl, fun h => absurd h (by decide), Or.inl ⟨rfl, rfl⟩, thr_0 (by decide +kernel)⟩
def k117 : Code1 := [(0, .aload_n 1, 1), (1, .ifnonnull 5, 3), (4, .iconst 0, 1), (5, .ireturn, 1), (6, .aload_n 0, 1), (7, .getfield 7, 3), (10, .iconst 5, 1), (11, .if_icmp .ne 10, 3), (14, .aload_n 1, 1), (15, .invokevirtual 52, 3), (18, .goto 34, 3), (21, .aload_n 0, 1), (22, .getfield 7, 3), (25, .bipush 6, 2), (27, .if_icmp .eq 12, 3), (30, .aload_n 0, 1), (31, .getfield 7, 3), (34, .bipush 7, 2), (36, .if_icmp .ne 15, 3), (39, .aload_n 1, 1), (40, .getfield 7, 3), (43, .iconst 4, 1), (44, .if_icmp .ne 7, 3), (47, .iconst 1, 1), (48, .goto 4, 3), (51, .iconst 0, 1), (52, .ireturn, 1)]
def X117 : MT := (k117, pl9, (some FieldType.boolean), false, [])
theorem k117_d : ∀ q ∈ k117, decode cX9_wants q.1 = .ok q.2 := by decide +kernel
theorem X117_ok : CodeOK (Mof mE117) X117 := ⟨code_1 k117_d (by decide +kernel), rfl, fun h => absurd h (by decide), Or.inl ⟨rfl, rfl⟩, thr_0 (by decide +kernel)⟩
def k118 : Code1 := [(0, .aload_n 0, 1), (1, .invokespecial 3, 3), (4, .aload_n 0, 1), (5, .aload_n 1, 1), (6, .putfield 9, 3), (9, .return_, 1)]
def X118 : MT := (k118, pl10, none, true, [])
theorem k118_d : ∀ q ∈ k118, decode cX10_init q.1 = .ok q.2 := by decide +kernel
theorem X118_ok : CodeOK (Mof mE118) X118 := ⟨code_1 k118_d (by decide +kernel), rfl, fun _ => rfl, Or.inl ⟨rfl, rfl⟩, thr_0 (by decide +kernel)⟩
def k119 : Code1 := [(0, .aload_n 0, 1), (1, .iconst 0, 1), (2, .putfield 15, 3), (5, .aload_n 0, 1), (6, .aconst_null, 1), (7, .putfield 19, 3), (10, .aload_n 0, 1), (11, .getfield 9, 3), (14, .invokevirtual 23, 3), (17, .aload_n 0, 1), (18, .aconst_null, 1), (19, .iconst 1, 1), (20, .invokevirtual 28, 3), (23, .astore_n 1, 1), (24, .aload_n 0, 1), (25, .getfield 9, 3), (28, .invokevirtual 23, 3), (31, .aload_n 0, 1), (32, .getfield 9, 3), (35, .iconst (-1), 1), (36, .invokevirtual 32, 3), (39, .aload_n 1, 1), (40, .areturn, 1)]
def X119 : MT := (k119, pl10, (some (FieldType.object "PathHouse$Node")), false, [])
theorem k119_d : ∀ q ∈ k119, decode cX10_whole q.1 = .ok q.2 := by decide +kernel
theorem X119_ok : CodeOK (Mof mE119) X119 := ⟨code_1 k119_d (by decide +kernel), rfl, fun h => absurd h (by decide), Or.inl ⟨rfl, rfl⟩, thr_0 (by decide +kernel)⟩
def k120 : Code1 := [(0, .aload_n 0, 1), (1, .getfield 9, 3), (4, .invokevirtual 36, 3), (7, .invokestatic 40, 3), (10, .istore_n 3, 1), (11, .iload_n 3, 1), (12, .iconst (-1), 1), (13, .if_icmp .ne 18, 3), (16, .aload_n 0, 1), (17, .getfield 9, 3), (20, .iconst 1, 1), (21, .aload_n 0, 1), (22, .getfield 9, 3), (25, .getfield 44, 3), (28, .invokevirtual 47, 3), (31, .aload_n 0, 1), (32, .getfield 15, 3), (35, .sipush 300, 3), (38, .if_icmp .ge 9, 3), (41, .iload_n 2, 1), (42, .bipush 30, 2), (44, .if_icmp .le 18, 3), (47, .aload_n 0, 1), (48, .getfield 9, 3), (51, .iconst 4, 1), (52, .aload_n 0, 1), (53, .getfield 9, 3), (56, .getfield 44, 3), (59, .invokevirtual 47, 3), (62, .new 51, 3), (65, .dup, 1), (66, .iload_n 3, 1), (67, .aload_n 1, 1), (68, .iload_n 2, 1), (69, .aload_n 0, 1), (70, .getfield 15, 3), (73, .invokespecial 53, 3), (76, .astore 4, 2), (78, .aload_n 0, 1), (79, .dup, 1), (80, .getfield 15, 3), (83, .iconst 1, 1), (84, .iadd, 1), (85, .putfield 15, 3), (88, .aload_n 0, 1), (89, .getfield 19, 3), (92, .ifnull 12, 3), (95, .aload_n 0, 1), (96, .getfield 19, 3), (99, .aload 4, 2), (101, .putfield 56, 3), (104, .aload_n 0, 1), (105, .aload 4, 2), (107, .putfield 19, 3), (110, .aload_n 0, 1), (111, .aload 4, 2), (113, .invokevirtual 59, 3), (116, .aload 4, 2), (118, .aload_n 0, 1), (119, .getfield 15, 3), (122, .iconst 1, 1), (123, .isub, 1), (124, .putfield 63, 3), (127, .aload 4, 2), (129, .areturn, 1)]
def X120 : MT := (k120, pl10, (some (FieldType.object "PathHouse$Node")), false, [])
theorem k120_d : ∀ q ∈ k120, decode cX10_readNode q.1 = .ok q.2 := by decide +kernel
theorem X120_ok : CodeOK (Mof mE120) X120 := ⟨code_1 k120_d (by decide +kernel), rfl, fun h => absurd h (by decide), Or.inl ⟨rfl, rfl⟩, thr_0 (by decide +kernel)⟩
def k121 : Code1 := [(0, .iload_n 0, 1), (1, .lookupswitch 72 #[(34, 65), (91, 67), (102, 61), (110, 59), (116, 63), (123, 69)], 59), (60, .iconst 0, 1), (61, .ireturn, 1), (62, .iconst 1, 1), (63, .ireturn, 1), (64, .iconst 2, 1), (65, .ireturn, 1), (66, .iconst 4, 1), (67, .ireturn, 1), (68, .iconst 5, 1), (69, .ireturn, 1), (70, .bipush 6, 2), (72, .ireturn, 1), (73, .iload_n 0, 1), (74, .bipush 45, 2), (76, .if_icmp .eq 10, 3), (79, .iload_n 0, 1), (80, .invokestatic 66, 3), (83, .ifCond .eq 7, 3), (86, .iconst 3, 1), (87, .goto 4, 3), (90, .iconst (-1), 1), (91, .ireturn, 1)]
def X121 : MT := (k121, pl10, (some FieldType.int), false, [])
theorem k121_d : ∀ q ∈ k121, decode cX10_kindBegunBy q.1 = .ok q.2 := by decide +kernel
theorem X121_ok : CodeOK (Mof mE121) X121 := ⟨code_1 k121_d (by decide +kernel), rfl, fun h => absurd h (by decide), Or.inl ⟨rfl, rfl⟩, thr_0 (by decide +kernel)⟩
def k122 : Code1 := [(0, .aload_n 1, 1), (1, .getfield 70, 3), (4, .tableswitch 109 0 5 #[40, 52, 64, 76, 87, 101], 40), (44, .aload_n 0, 1), (45, .getfield 9, 3), (48, .ldc 73, 2), (50, .invokevirtual 75, 3), (53, .goto 65, 3), (56, .aload_n 0, 1), (57, .getfield 9, 3), (60, .ldc 79, 2), (62, .invokevirtual 75, 3), (65, .goto 53, 3), (68, .aload_n 0, 1), (69, .getfield 9, 3), (72, .ldc 81, 2), (74, .invokevirtual 75, 3), (77, .goto 41, 3), (80, .aload_n 1, 1), (81, .aload_n 0, 1), (82, .invokevirtual 83, 3), (85, .putfield 87, 3), (88, .goto 30, 3), (91, .aload_n 1, 1), (92, .aload_n 0, 1), (93, .getfield 9, 3), (96, .invokevirtual 91, 3), (99, .putfield 95, 3), (102, .goto 16, 3), (105, .aload_n 0, 1), (106, .aload_n 1, 1), (107, .invokevirtual 99, 3), (110, .goto 8, 3), (113, .aload_n 0, 1), (114, .aload_n 1, 1), (115, .invokevirtual 102, 3), (118, .return_, 1)]
def X122 : MT := (k122, pl10, none, false, [])
theorem k122_d : ∀ q ∈ k122, decode cX10_readRest q.1 = .ok q.2 := by decide +kernel
theorem X122_ok : CodeOK (Mof mE122) X122 := ⟨code_1 k122_d (by decide +kernel), rfl, fun h => absurd h (by decide), Or.inl ⟨rfl, rfl⟩, thr_0 (by decide +kernel)⟩
def k123 : Code1 := [(0, .aload_n 0, 1), (1, .getfield 9, 3), (4, .getfield 44, 3), (7, .istore_n 1, 1), (8, .aload_n 0, 1), (9, .getfield 9, 3), (12, .iconst 1, 1), (13, .invokevirtual 105, 3), (16, .lstore_n 2, 1), (17, .lload_n 2, 1), (18, .invokestatic 109, 3), (21, .ifCond .eq 12, 3), (24, .aload_n 0, 1), (25, .getfield 9, 3), (28, .iconst 3, 1), (29, .iload_n 1, 1), (30, .invokevirtual 47, 3), (33, .lload_n 2, 1), (34, .lreturn, 1)]
def X123 : MT := (k123, pl10, (some FieldType.long), false, [])
theorem k123_d : ∀ q ∈ k123, decode cX10_readInt q.1 = .ok q.2 := by decide +kernel
theorem X123_ok : CodeOK (Mof mE123) X123 := ⟨code_1 k123_d (by decide +kernel), rfl, fun h => absurd h (by decide), Or.inl ⟨rfl, rfl⟩, thr_0 (by decide +kernel)⟩
def k124 : Code1 := [(0, .aload_n 0, 1), (1, .getfield 9, 3), (4, .dup, 1), (5, .getfield 44, 3), (8, .iconst 1, 1), (9, .iadd, 1), (10, .putfield 44, 3), (13, .aload_n 0, 1), (14, .getfield 9, 3), (17, .invokevirtual 23, 3), (20, .aload_n 0, 1), (21, .getfield 9, 3), (24, .invokevirtual 36, 3), (27, .iload_n 1, 1), (28, .if_icmp .eq 5, 3), (31, .iconst 0, 1), (32, .ireturn, 1), (33, .aload_n 0, 1), (34, .getfield 9, 3), (37, .dup, 1), (38, .getfield 44, 3), (41, .iconst 1, 1), (42, .iadd, 1), (43, .putfield 44, 3), (46, .iconst 1, 1), (47, .ireturn, 1)]
def X124 : MT := (k124, pl10, (some FieldType.boolean), false, [])
theorem k124_d : ∀ q ∈ k124, decode cX10_takesEmpty q.1 = .ok q.2 := by decide +kernel
theorem X124_ok : CodeOK (Mof mE124) X124 := ⟨code_1 k124_d (by decide +kernel), rfl, fun h => absurd h (by decide), Or.inl ⟨rfl, rfl⟩, thr_0 (by decide +kernel)⟩
def k125 : Code1 := [(0, .aload_n 0, 1), (1, .bipush 93, 2), (3, .invokevirtual 113, 3), (6, .ifCond .eq 4, 3), (9, .return_, 1), (10, .iconst 1, 1), (11, .istore_n 2, 1), (12, .iconst 0, 1), (13, .istore_n 3, 1), (14, .iload_n 3, 1), (15, .sipush 300, 3), (18, .if_icmp .gt 37, 3), (21, .iload_n 2, 1), (22, .ifCond .eq 33, 3), (25, .aload_n 1, 1), (26, .aload_n 0, 1), (27, .aload_n 1, 1), (28, .aload_n 1, 1), (29, .getfield 116, 3), (32, .iconst 1, 1), (33, .iadd, 1), (34, .invokevirtual 28, 3), (37, .aconst_null, 1), (38, .invokevirtual 119, 3), (41, .aload_n 0, 1), (42, .getfield 9, 3), (45, .invokevirtual 123, 3), (48, .istore_n 2, 1), (49, .iinc 3 1, 3), (52, .goto (-38), 3), (55, .aload_n 0, 1), (56, .getfield 9, 3), (59, .bipush 93, 2), (61, .invokevirtual 32, 3), (64, .return_, 1)]
def X125 : MT := (k125, pl10, none, false, [])
theorem k125_d : ∀ q ∈ k125, decode cX10_readElements q.1 = .ok q.2 := by decide +kernel
theorem X125_ok : CodeOK (Mof mE125) X125 := ⟨code_1 k125_d (by decide +kernel), rfl, fun h => absurd h (by decide), Or.inl ⟨rfl, rfl⟩, thr_0 (by decide +kernel)⟩
def k126 : Code1 := [(0, .aload_n 0, 1), (1, .bipush 125, 2), (3, .invokevirtual 113, 3), (6, .ifCond .eq 4, 3), (9, .return_, 1), (10, .iconst 1, 1), (11, .istore_n 2, 1), (12, .iconst 0, 1), (13, .istore_n 3, 1), (14, .iload_n 3, 1), (15, .sipush 300, 3), (18, .if_icmp .gt 26, 3), (21, .iload_n 2, 1), (22, .ifCond .eq 22, 3), (25, .aload_n 0, 1), (26, .aload_n 1, 1), (27, .invokevirtual 127, 3), (30, .aload_n 0, 1), (31, .getfield 9, 3), (34, .invokevirtual 123, 3), (37, .istore_n 2, 1), (38, .iinc 3 1, 3), (41, .goto (-27), 3), (44, .aload_n 0, 1), (45, .getfield 9, 3), (48, .bipush 125, 2), (50, .invokevirtual 32, 3), (53, .return_, 1)]
def X126 : MT := (k126, pl10, none, false, [])
theorem k126_d : ∀ q ∈ k126, decode cX10_readMembers q.1 = .ok q.2 := by decide +kernel
theorem X126_ok : CodeOK (Mof mE126) X126 := ⟨code_1 k126_d (by decide +kernel), rfl, fun h => absurd h (by decide), Or.inl ⟨rfl, rfl⟩, thr_0 (by decide +kernel)⟩
def k127 : Code1 := [(0, .aload_n 0, 1), (1, .getfield 9, 3), (4, .getfield 44, 3), (7, .istore_n 2, 1), (8, .aload_n 0, 1), (9, .getfield 9, 3), (12, .invokevirtual 36, 3), (15, .bipush 34, 2), (17, .if_icmp .eq 12, 3), (20, .aload_n 0, 1), (21, .getfield 9, 3), (24, .iconst 1, 1), (25, .iload_n 2, 1), (26, .invokevirtual 47, 3), (29, .aload_n 0, 1), (30, .getfield 9, 3), (33, .invokevirtual 91, 3), (36, .astore_n 3, 1), (37, .aload_n 1, 1), (38, .aload_n 3, 1), (39, .invokevirtual 130, 3), (42, .ifnull 12, 3), (45, .aload_n 0, 1), (46, .getfield 9, 3), (49, .iconst 2, 1), (50, .iload_n 2, 1), (51, .invokevirtual 47, 3), (54, .aload_n 0, 1), (55, .getfield 9, 3), (58, .invokevirtual 23, 3), (61, .aload_n 0, 1), (62, .getfield 9, 3), (65, .bipush 58, 2), (67, .invokevirtual 32, 3), (70, .aload_n 0, 1), (71, .getfield 9, 3), (74, .invokevirtual 23, 3), (77, .aload_n 1, 1), (78, .aload_n 0, 1), (79, .aload_n 1, 1), (80, .aload_n 1, 1), (81, .getfield 116, 3), (84, .iconst 1, 1), (85, .iadd, 1), (86, .invokevirtual 28, 3), (89, .aload_n 3, 1), (90, .invokevirtual 119, 3), (93, .return_, 1)]
def X127 : MT := (k127, pl10, none, false, [])
theorem k127_d : ∀ q ∈ k127, decode cX10_readMember q.1 = .ok q.2 := by decide +kernel
theorem X127_ok : CodeOK (Mof mE127) X127 := ⟨code_1 k127_d (by decide +kernel), rfl, fun h => absurd h (by decide), Or.inl ⟨rfl, rfl⟩, thr_0 (by decide +kernel)⟩
def k128 : Code1 := [(0, .aload_n 0, 1), (1, .invokespecial 3, 3), (4, .aload_n 0, 1), (5, .sipush 1200, 3), (8, .newarray .byte, 2), (10, .putfield 9, 3), (13, .aload_n 0, 1), (14, .new 13, 3), (17, .dup, 1), (18, .aload_n 0, 1), (19, .getfield 9, 3), (22, .invokespecial 15, 3), (25, .putfield 18, 3), (28, .aload_n 0, 1), (29, .new 22, 3), (32, .dup, 1), (33, .aload_n 0, 1), (34, .getfield 18, 3), (37, .invokespecial 24, 3), (40, .putfield 27, 3), (43, .aload_n 0, 1), (44, .new 31, 3), (47, .dup, 1), (48, .aload_n 0, 1), (49, .getfield 18, 3), (52, .invokespecial 33, 3), (55, .putfield 34, 3), (58, .aload_n 0, 1), (59, .new 38, 3), (62, .dup, 1), (63, .invokespecial 40, 3), (66, .putfield 41, 3), (69, .aload_n 0, 1), (70, .new 45, 3), (73, .dup, 1), (74, .invokespecial 47, 3), (77, .putfield 48, 3), (80, .return_, 1)]
def X128 : MT := (k128, pl11, none, true, [])
theorem k128_d : ∀ q ∈ k128, decode cX11_init q.1 = .ok q.2 := by decide +kernel
theorem X128_ok : CodeOK (Mof mE128) X128 := ⟨code_1 k128_d (by decide +kernel), rfl, fun _ => rfl, Or.inl ⟨rfl, rfl⟩, thr_0 (by decide +kernel)⟩
def k129 : Code1 := [(0, .aload_n 0, 1), (1, .getfield 52, 3), (4, .bipush 20, 2), (6, .iadd, 1), (7, .sipush 1200, 3), (10, .if_icmp .le 5, 3), (13, .iconst (-1), 1), (14, .ireturn, 1), (15, .aload_n 0, 1), (16, .iload_n 1, 1), (17, .invokevirtual 56, 3), (20, .aload_n 0, 1), (21, .iload_n 2, 1), (22, .invokevirtual 56, 3), (25, .aload_n 0, 1), (26, .iload_n 3, 1), (27, .invokevirtual 56, 3), (30, .aload_n 0, 1), (31, .iload 4, 2), (33, .invokevirtual 56, 3), (36, .aload_n 0, 1), (37, .iload 5, 2), (39, .invokevirtual 56, 3), (42, .aload_n 0, 1), (43, .getfield 52, 3), (46, .ireturn, 1)]
def X129 : MT := (k129, pl11, (some FieldType.int), false, [])
theorem k129_d : ∀ q ∈ k129, decode cX11_feed q.1 = .ok q.2 := by decide +kernel
theorem X129_ok : CodeOK (Mof mE129) X129 := ⟨code_1 k129_d (by decide +kernel), rfl, fun h => absurd h (by decide), Or.inl ⟨rfl, rfl⟩, thr_0 (by decide +kernel)⟩
def k130 : Code1 := [(0, .aload_n 0, 1), (1, .iload_n 1, 1), (2, .invokevirtual 60, 3), (5, .ifCond .ne 5, 3), (8, .iconst (-1), 1), (9, .ireturn, 1), (10, .aload_n 0, 1), (11, .aload_n 0, 1), (12, .getfield 27, 3), (15, .invokevirtual 64, 3), (18, .putfield 68, 3), (21, .goto 12, 3), (24, .astore_n 2, 1), (25, .aload_n 0, 1), (26, .getfield 18, 3), (29, .getfield 74, 3), (32, .ireturn, 1), (33, .aload_n 0, 1), (34, .getfield 41, 3), (37, .invokevirtual 77, 3), (40, .iconst 0, 1), (41, .ireturn, 1)]
def X130 : MT := (k130, pl11, (some FieldType.int), false, [(10, 21, 24, 200)])
theorem k130_d : ∀ q ∈ k130, decode cX11_json q.1 = .ok q.2 := by decide +kernel
theorem X130_ok : CodeOK (Mof mE130) X130 := ⟨code_1 k130_d (by decide +kernel), rfl, fun h => absurd h (by decide), Or.inr ⟨10, 21, 24, 72, 200, rfl, rfl, by decide, Or.inr ⟨0, by decide, rfl, gw (tw1 (i := 195) rfl) rfl⟩⟩, thr_0 (by decide +kernel)⟩
def k131 : Code1 := [(0, .aload_n 0, 1), (1, .iload_n 1, 1), (2, .invokevirtual 60, 3), (5, .ifCond .ne 5, 3), (8, .iconst (-1), 1), (9, .ireturn, 1), (10, .aload_n 0, 1), (11, .aload_n 0, 1), (12, .getfield 34, 3), (15, .invokevirtual 80, 3), (18, .putfield 83, 3), (21, .goto 12, 3), (24, .astore_n 2, 1), (25, .aload_n 0, 1), (26, .getfield 18, 3), (29, .getfield 74, 3), (32, .ireturn, 1), (33, .aload_n 0, 1), (34, .getfield 41, 3), (37, .invokevirtual 77, 3), (40, .iconst 0, 1), (41, .ireturn, 1)]
def X131 : MT := (k131, pl11, (some FieldType.int), false, [(10, 21, 24, 200)])
theorem k131_d : ∀ q ∈ k131, decode cX11_query q.1 = .ok q.2 := by decide +kernel
theorem X131_ok : CodeOK (Mof mE131) X131 := ⟨code_1 k131_d (by decide +kernel), rfl, fun h => absurd h (by decide), Or.inr ⟨10, 21, 24, 72, 200, rfl, rfl, by decide, Or.inr ⟨0, by decide, rfl, gw (tw1 (i := 195) rfl) rfl⟩⟩, thr_0 (by decide +kernel)⟩
def k132 : Code1 := [(0, .aload_n 0, 1), (1, .getfield 87, 3), (4, .ifCond .ne 5, 3), (7, .iconst (-1), 1), (8, .ireturn, 1), (9, .iload_n 1, 1), (10, .lookupswitch 42 #[(0, 26), (1, 34)], 26), (36, .aload_n 0, 1), (37, .getfield 18, 3), (40, .getfield 74, 3), (43, .ireturn, 1), (44, .aload_n 0, 1), (45, .getfield 18, 3), (48, .getfield 91, 3), (51, .ireturn, 1), (52, .iconst (-1), 1), (53, .ireturn, 1)]
def X132 : MT := (k132, pl11, (some FieldType.int), false, [])
theorem k132_d : ∀ q ∈ k132, decode cX11_fault q.1 = .ok q.2 := by decide +kernel
theorem X132_ok : CodeOK (Mof mE132) X132 := ⟨code_1 k132_d (by decide +kernel), rfl, fun h => absurd h (by decide), Or.inl ⟨rfl, rfl⟩, thr_0 (by decide +kernel)⟩
def k133 : Code1 := [(0, .aload_n 0, 1), (1, .getfield 68, 3), (4, .ifnull 10, 3), (7, .aload_n 0, 1), (8, .getfield 83, 3), (11, .ifnonnull 5, 3), (14, .iconst (-1), 1), (15, .ireturn, 1), (16, .aload_n 0, 1), (17, .getfield 41, 3), (20, .aload_n 0, 1), (21, .getfield 83, 3), (24, .aload_n 0, 1), (25, .getfield 68, 3), (28, .invokevirtual 94, 3), (31, .ireturn, 1)]
def X133 : MT := (k133, pl11, (some FieldType.int), false, [])
theorem k133_d : ∀ q ∈ k133, decode cX11_find q.1 = .ok q.2 := by decide +kernel
theorem X133_ok : CodeOK (Mof mE133) X133 := ⟨code_1 k133_d (by decide +kernel), rfl, fun h => absurd h (by decide), Or.inl ⟨rfl, rfl⟩, thr_0 (by decide +kernel)⟩
def k134 : Code1 := [(0, .aload_n 0, 1), (1, .getfield 41, 3), (4, .iload_n 1, 1), (5, .invokevirtual 98, 3), (8, .astore_n 3, 1), (9, .aload_n 3, 1), (10, .ifnonnull 5, 3), (13, .iconst (-1), 1), (14, .ireturn, 1), (15, .iload_n 2, 1), (16, .tableswitch 63 0 4 #[36, 41, 46, 53, 58], 36), (52, .aload_n 3, 1), (53, .getfield 102, 3), (56, .ireturn, 1), (57, .aload_n 3, 1), (58, .invokevirtual 107, 3), (61, .ireturn, 1), (62, .aload_n 3, 1), (63, .getfield 111, 3), (66, .iconst 1, 1), (67, .isub, 1), (68, .ireturn, 1), (69, .aload_n 3, 1), (70, .getfield 114, 3), (73, .ireturn, 1), (74, .aload_n 3, 1), (75, .getfield 117, 3), (78, .ireturn, 1), (79, .iconst (-1), 1), (80, .ireturn, 1)]
def X134 : MT := (k134, pl11, (some FieldType.int), false, [])
theorem k134_d : ∀ q ∈ k134, decode cX11_found q.1 = .ok q.2 := by decide +kernel
theorem X134_ok : CodeOK (Mof mE134) X134 := ⟨code_1 k134_d (by decide +kernel), rfl, fun h => absurd h (by decide), Or.inl ⟨rfl, rfl⟩, thr_0 (by decide +kernel)⟩
end
section
def k135 : Code1 := [(0, .aload_n 0, 1), (1, .getfield 41, 3), (4, .iload_n 1, 1), (5, .invokevirtual 98, 3), (8, .astore_n 2, 1), (9, .aload_n 2, 1), (10, .ifnonnull 7, 3), (13, .lconst 0, 1), (14, .goto 7, 3), (17, .aload_n 2, 1), (18, .getfield 120, 3), (21, .lreturn, 1)]
def X135 : MT := (k135, pl11, (some FieldType.long), false, [])
theorem k135_d : ∀ q ∈ k135, decode cX11_number q.1 = .ok q.2 := by decide +kernel
theorem X135_ok : CodeOK (Mof mE135) X135 := ⟨code_1 k135_d (by decide +kernel), rfl, fun h => absurd h (by decide), Or.inl ⟨rfl, rfl⟩, thr_0 (by decide +kernel)⟩
def k136 : Code1 := [(0, .aload_n 0, 1), (1, .getfield 41, 3), (4, .iload_n 1, 1), (5, .invokevirtual 98, 3), (8, .astore_n 2, 1), (9, .aload_n 2, 1), (10, .ifnonnull 5, 3), (13, .iconst (-1), 1), (14, .ireturn, 1), (15, .aload_n 0, 1), (16, .getfield 48, 3), (19, .invokevirtual 123, 3), (22, .aload_n 0, 1), (23, .getfield 48, 3), (26, .aload_n 2, 1), (27, .bipush 30, 2), (29, .invokevirtual 126, 3), (32, .aload_n 0, 1), (33, .getfield 48, 3), (36, .getfield 130, 3), (39, .ireturn, 1)]
def X136 : MT := (k136, pl11, (some FieldType.int), false, [])
theorem k136_d : ∀ q ∈ k136, decode cX11_path q.1 = .ok q.2 := by decide +kernel
theorem X136_ok : CodeOK (Mof mE136) X136 := ⟨code_1 k136_d (by decide +kernel), rfl, fun h => absurd h (by decide), Or.inl ⟨rfl, rfl⟩, thr_0 (by decide +kernel)⟩
def k137 : Code1 := [(0, .aload_n 0, 1), (1, .getfield 41, 3), (4, .iload_n 1, 1), (5, .invokevirtual 98, 3), (8, .astore_n 2, 1), (9, .aload_n 2, 1), (10, .ifnonnull 5, 3), (13, .iconst (-1), 1), (14, .ireturn, 1), (15, .aload_n 0, 1), (16, .getfield 48, 3), (19, .invokevirtual 123, 3), (22, .aload_n 0, 1), (23, .getfield 48, 3), (26, .aload_n 2, 1), (27, .bipush 30, 2), (29, .invokevirtual 133, 3), (32, .aload_n 0, 1), (33, .getfield 48, 3), (36, .getfield 130, 3), (39, .ireturn, 1)]
def X137 : MT := (k137, pl11, (some FieldType.int), false, [])
theorem k137_d : ∀ q ∈ k137, decode cX11_text q.1 = .ok q.2 := by decide +kernel
theorem X137_ok : CodeOK (Mof mE137) X137 := ⟨code_1 k137_d (by decide +kernel), rfl, fun h => absurd h (by decide), Or.inl ⟨rfl, rfl⟩, thr_0 (by decide +kernel)⟩
def k139 : Code1 := [(0, .iload_n 1, 1), (1, .tableswitch 165 0 7 #[47, 68, 87, 109, 136, 144, 152, 157], 47), (48, .aload_n 0, 1), (49, .getfield 68, 3), (52, .ifnonnull 7, 3), (55, .iconst (-1), 1), (56, .goto 12, 3), (59, .aload_n 0, 1), (60, .getfield 68, 3), (63, .getfield 150, 3), (66, .iconst 1, 1), (67, .iadd, 1), (68, .ireturn, 1), (69, .aload_n 0, 1), (70, .getfield 68, 3), (73, .ifnonnull 7, 3), (76, .iconst (-1), 1), (77, .goto 10, 3), (80, .aload_n 0, 1), (81, .getfield 68, 3), (84, .invokevirtual 153, 3), (87, .ireturn, 1), (88, .aload_n 0, 1), (89, .getfield 83, 3), (92, .ifnonnull 7, 3), (95, .iconst (-1), 1), (96, .goto 13, 3), (99, .aload_n 0, 1), (100, .getfield 83, 3), (103, .getfield 156, 3), (106, .invokevirtual 162, 3), (109, .ireturn, 1), (110, .aload_n 0, 1), (111, .getfield 83, 3), (114, .ifnonnull 7, 3), (117, .iconst (-1), 1), (118, .goto 18, 3), (121, .aload_n 0, 1), (122, .getfield 83, 3), (125, .getfield 165, 3), (128, .ifCond .eq 7, 3), (131, .iconst 1, 1), (132, .goto 4, 3), (135, .iconst 0, 1), (136, .ireturn, 1), (137, .aload_n 0, 1), (138, .getfield 41, 3), (141, .getfield 168, 3), (144, .ireturn, 1), (145, .aload_n 0, 1), (146, .getfield 41, 3), (149, .invokevirtual 171, 3), (152, .ireturn, 1), (153, .aload_n 0, 1), (154, .getfield 52, 3), (157, .ireturn, 1), (158, .aload_n 0, 1), (159, .getfield 48, 3), (162, .getfield 130, 3), (165, .ireturn, 1), (166, .iconst (-1), 1), (167, .ireturn, 1)]
def X139 : MT := (k139, pl11, (some FieldType.int), false, [])
theorem k139_d : ∀ q ∈ k139, decode cX11_about q.1 = .ok q.2 := by decide +kernel
theorem X139_ok : CodeOK (Mof mE139) X139 := ⟨code_1 k139_d (by decide +kernel), rfl, fun h => absurd h (by decide), Or.inl ⟨rfl, rfl⟩, thr_0 (by decide +kernel)⟩
def k140 : Code1 := [(0, .bipush 24, 2), (2, .istore_n 2, 1), (3, .iload_n 2, 1), (4, .ifCond .lt 42, 3), (7, .aload_n 0, 1), (8, .getfield 52, 3), (11, .sipush 1200, 3), (14, .if_icmp .ge 32, 3), (17, .aload_n 0, 1), (18, .getfield 9, 3), (21, .aload_n 0, 1), (22, .getfield 52, 3), (25, .iload_n 1, 1), (26, .iload_n 2, 1), (27, .ishr, 1), (28, .i2b, 1), (29, .bastore, 1), (30, .aload_n 0, 1), (31, .dup, 1), (32, .getfield 52, 3), (35, .iconst 1, 1), (36, .iadd, 1), (37, .putfield 52, 3), (40, .iinc 2 (-8), 3), (43, .goto (-40), 3), (46, .return_, 1)]
def X140 : MT := (k140, pl11, none, false, [])
theorem k140_d : ∀ q ∈ k140, decode cX11_tapeFour q.1 = .ok q.2 := by decide +kernel
theorem X140_ok : CodeOK (Mof mE140) X140 := ⟨code_1 k140_d (by decide +kernel), rfl, fun h => absurd h (by decide), Or.inl ⟨rfl, rfl⟩, thr_0 (by decide +kernel)⟩
def k141 : Code1 := [(0, .iload_n 1, 1), (1, .ifCond .lt 11, 3), (4, .iload_n 1, 1), (5, .aload_n 0, 1), (6, .getfield 52, 3), (9, .if_icmp .le 5, 3), (12, .iconst 0, 1), (13, .ireturn, 1), (14, .aload_n 0, 1), (15, .getfield 18, 3), (18, .iload_n 1, 1), (19, .invokevirtual 174, 3), (22, .aload_n 0, 1), (23, .iconst 0, 1), (24, .putfield 52, 3), (27, .aload_n 0, 1), (28, .iconst 1, 1), (29, .putfield 87, 3), (32, .iconst 1, 1), (33, .ireturn, 1)]
def X141 : MT := (k141, pl11, (some FieldType.boolean), false, [])
theorem k141_d : ∀ q ∈ k141, decode cX11_begin q.1 = .ok q.2 := by decide +kernel
theorem X141_ok : CodeOK (Mof mE141) X141 := ⟨code_1 k141_d (by decide +kernel), rfl, fun h => absurd h (by decide), Or.inl ⟨rfl, rfl⟩, thr_0 (by decide +kernel)⟩
def k142 : Code1 := [(0, .iload_n 0, 1), (1, .bipush 48, 2), (3, .if_icmp .lt 13, 3), (6, .iload_n 0, 1), (7, .bipush 57, 2), (9, .if_icmp .gt 7, 3), (12, .iconst 1, 1), (13, .goto 4, 3), (16, .iconst 0, 1), (17, .ireturn, 1)]
def X142 : MT := (k142, pl11, (some FieldType.boolean), false, [])
theorem k142_d : ∀ q ∈ k142, decode cX11_isDigit q.1 = .ok q.2 := by decide +kernel
theorem X142_ok : CodeOK (Mof mE142) X142 := ⟨code_1 k142_d (by decide +kernel), rfl, fun h => absurd h (by decide), Or.inl ⟨rfl, rfl⟩, thr_0 (by decide +kernel)⟩
def k143 : Code1 := [(0, .iload_n 0, 1), (1, .bipush 97, 2), (3, .if_icmp .lt 13, 3), (6, .iload_n 0, 1), (7, .bipush 122, 2), (9, .if_icmp .gt 7, 3), (12, .iconst 1, 1), (13, .goto 4, 3), (16, .iconst 0, 1), (17, .ireturn, 1)]
def X143 : MT := (k143, pl11, (some FieldType.boolean), false, [])
theorem k143_d : ∀ q ∈ k143, decode cX11_isSmall q.1 = .ok q.2 := by decide +kernel
theorem X143_ok : CodeOK (Mof mE143) X143 := ⟨code_1 k143_d (by decide +kernel), rfl, fun h => absurd h (by decide), Or.inl ⟨rfl, rfl⟩, thr_0 (by decide +kernel)⟩
def k144 : Code1 := [(0, .iload_n 0, 1), (1, .invokestatic 176, 3), (4, .ifCond .ne 15, 3), (7, .iload_n 0, 1), (8, .bipush 65, 2), (10, .if_icmp .lt 13, 3), (13, .iload_n 0, 1), (14, .bipush 90, 2), (16, .if_icmp .gt 7, 3), (19, .iconst 1, 1), (20, .goto 4, 3), (23, .iconst 0, 1), (24, .ireturn, 1)]
def X144 : MT := (k144, pl11, (some FieldType.boolean), false, [])
theorem k144_d : ∀ q ∈ k144, decode cX11_isLetter q.1 = .ok q.2 := by decide +kernel
theorem X144_ok : CodeOK (Mof mE144) X144 := ⟨code_1 k144_d (by decide +kernel), rfl, fun h => absurd h (by decide), Or.inl ⟨rfl, rfl⟩, thr_0 (by decide +kernel)⟩
def k145 : Code1 := [(0, .lload_n 0, 1), (1, .ldc2_w 179, 3), (4, .lcmp, 1), (5, .ifCond .gt 11, 3), (8, .lload_n 0, 1), (9, .ldc2_w 181, 3), (12, .lcmp, 1), (13, .ifCond .ge 7, 3), (16, .iconst 1, 1), (17, .goto 4, 3), (20, .iconst 0, 1), (21, .ireturn, 1)]
def X145 : MT := (k145, pl11, (some FieldType.boolean), false, [])
theorem k145_d : ∀ q ∈ k145, decode cX11_isBeyond q.1 = .ok q.2 := by decide +kernel
theorem X145_ok : CodeOK (Mof mE145) X145 := ⟨code_1 k145_d (by decide +kernel), rfl, fun h => absurd h (by decide), Or.inl ⟨rfl, rfl⟩, thr_0 (by decide +kernel)⟩
def k146 : Code1 := [(0, .aload_n 0, 1), (1, .ifnull 14, 3), (4, .aload_n 1, 1), (5, .ifnull 10, 3), (8, .aload_n 0, 1), (9, .arraylength, 1), (10, .aload_n 1, 1), (11, .arraylength, 1), (12, .if_icmp .eq 5, 3), (15, .iconst 0, 1), (16, .ireturn, 1), (17, .iconst 0, 1), (18, .istore_n 2, 1), (19, .iload_n 2, 1), (20, .aload_n 0, 1), (21, .arraylength, 1), (22, .if_icmp .ge 20, 3), (25, .aload_n 0, 1), (26, .iload_n 2, 1), (27, .iaload, 1), (28, .aload_n 1, 1), (29, .iload_n 2, 1), (30, .iaload, 1), (31, .if_icmp .eq 5, 3), (34, .iconst 0, 1), (35, .ireturn, 1), (36, .iinc 2 1, 3), (39, .goto (-20), 3), (42, .iconst 1, 1), (43, .ireturn, 1)]
def X146 : MT := (k146, pl11, (some FieldType.boolean), false, [])
theorem k146_d : ∀ q ∈ k146, decode cX11_sameChars q.1 = .ok q.2 := by decide +kernel
theorem X146_ok : CodeOK (Mof mE146) X146 := ⟨code_1 k146_d (by decide +kernel), rfl, fun h => absurd h (by decide), Or.inl ⟨rfl, rfl⟩, thr_0 (by decide +kernel)⟩
def k147 : Code1 := [(0, .aload_n 0, 1), (1, .ifnull 7, 3), (4, .aload_n 1, 1), (5, .ifnonnull 5, 3), (8, .iconst 0, 1), (9, .ireturn, 1), (10, .aload_n 0, 1), (11, .arraylength, 1), (12, .aload_n 1, 1), (13, .arraylength, 1), (14, .invokestatic 183, 3), (17, .istore_n 2, 1), (18, .iconst 0, 1), (19, .istore_n 3, 1), (20, .iload_n 3, 1), (21, .iload_n 2, 1), (22, .if_icmp .ge 33, 3), (25, .aload_n 0, 1), (26, .iload_n 3, 1), (27, .iaload, 1), (28, .aload_n 1, 1), (29, .iload_n 3, 1), (30, .iaload, 1), (31, .if_icmp .eq 18, 3), (34, .aload_n 0, 1), (35, .iload_n 3, 1), (36, .iaload, 1), (37, .aload_n 1, 1), (38, .iload_n 3, 1), (39, .iaload, 1), (40, .if_icmp .ge 7, 3), (43, .iconst 1, 1), (44, .goto 4, 3), (47, .iconst 0, 1), (48, .ireturn, 1), (49, .iinc 3 1, 3), (52, .goto (-32), 3), (55, .aload_n 0, 1), (56, .arraylength, 1), (57, .aload_n 1, 1), (58, .arraylength, 1), (59, .if_icmp .ge 7, 3), (62, .iconst 1, 1), (63, .goto 4, 3), (66, .iconst 0, 1), (67, .ireturn, 1)]
def X147 : MT := (k147, pl11, (some FieldType.boolean), false, [])
theorem k147_d : ∀ q ∈ k147, decode cX11_charsBefore q.1 = .ok q.2 := by decide +kernel
theorem X147_ok : CodeOK (Mof mE147) X147 := ⟨code_1 k147_d (by decide +kernel), rfl, fun h => absurd h (by decide), Or.inl ⟨rfl, rfl⟩, thr_0 (by decide +kernel)⟩
def k148 : Code1 := [(0, .aload_n 0, 1), (1, .invokespecial 3, 3), (4, .aload_n 0, 1), (5, .sipush 2400, 3), (8, .newarray .int, 2), (10, .putfield 9, 3), (13, .aload_n 0, 1), (14, .sipush 2400, 3), (17, .newarray .int, 2), (19, .putfield 15, 3), (22, .aload_n 0, 1), (23, .sipush 2400, 3), (26, .newarray .int, 2), (28, .putfield 18, 3), (31, .aload_n 0, 1), (32, .sipush 2400, 3), (35, .newarray .int, 2), (37, .putfield 21, 3), (40, .aload_n 0, 1), (41, .sipush 2400, 3), (44, .newarray .int, 2), (46, .putfield 24, 3), (49, .aload_n 0, 1), (50, .sipush 2400, 3), (53, .newarray .long, 2), (55, .putfield 27, 3), (58, .aload_n 0, 1), (59, .sipush 2400, 3), (62, .newarray .long, 2), (64, .putfield 31, 3), (67, .aload_n 0, 1), (68, .sipush 2400, 3), (71, .newarray .long, 2), (73, .putfield 34, 3), (76, .return_, 1)]
def X148 : MT := (k148, pl12, none, true, [])
theorem k148_d : ∀ q ∈ k148, decode cX12_init q.1 = .ok q.2 := by decide +kernel
theorem X148_ok : CodeOK (Mof mE148) X148 := ⟨code_1 k148_d (by decide +kernel), rfl, fun _ => rfl, Or.inl ⟨rfl, rfl⟩, thr_0 (by decide +kernel)⟩
def k149 : Code1 := [(0, .aload_n 0, 1), (1, .invokespecial 3, 3), (4, .aload_n 0, 1), (5, .sipush 300, 3), (8, .newarray .int, 2), (10, .putfield 9, 3), (13, .aload_n 0, 1), (14, .sipush 300, 3), (17, .newarray .int, 2), (19, .putfield 15, 3), (22, .aload_n 0, 1), (23, .sipush 300, 3), (26, .newarray .int, 2), (28, .putfield 18, 3), (31, .aload_n 0, 1), (32, .sipush 300, 3), (35, .newarray .int, 2), (37, .putfield 21, 3), (40, .aload_n 0, 1), (41, .sipush 300, 3), (44, .newarray .int, 2), (46, .putfield 24, 3), (49, .aload_n 0, 1), (50, .sipush 300, 3), (53, .newarray .int, 2), (55, .putfield 27, 3), (58, .aload_n 0, 1), (59, .sipush 300, 3), (62, .newarray .int, 2), (64, .putfield 30, 3), (67, .aload_n 0, 1), (68, .sipush 300, 3), (71, .newarray .int, 2), (73, .putfield 33, 3), (76, .aload_n 0, 1), (77, .sipush 300, 3), (80, .newarray .int, 2), (82, .putfield 36, 3), (85, .aload_n 0, 1), (86, .sipush 300, 3), (89, .newarray .int, 2), (91, .putfield 39, 3), (94, .aload_n 0, 1), (95, .sipush 300, 3), (98, .newarray .int, 2), (100, .putfield 42, 3), (103, .aload_n 0, 1), (104, .sipush 300, 3), (107, .newarray .long, 2), (109, .putfield 45, 3), (112, .return_, 1)]
def X149 : MT := (k149, pl13, none, true, [])
theorem k149_d : ∀ q ∈ k149, decode cX13_init q.1 = .ok q.2 := by decide +kernel
theorem X149_ok : CodeOK (Mof mE149) X149 := ⟨code_1 k149_d (by decide +kernel), rfl, fun _ => rfl, Or.inl ⟨rfl, rfl⟩, thr_0 (by decide +kernel)⟩
def k150 : Code1 := [(0, .aload_n 0, 1), (1, .aconst_null, 1), (2, .aconst_null, 1), (3, .iconst 0, 1), (4, .iconst 0, 1), (5, .invokespecial 1, 3), (8, .return_, 1)]
def X150 : MT := (k150, pl14, none, true, [])
theorem k150_d : ∀ q ∈ k150, decode cX14_init q.1 = .ok q.2 := by decide +kernel
theorem X150_ok : CodeOK (Mof mE150) X150 := ⟨code_1 k150_d (by decide +kernel), rfl, fun _ => rfl, Or.inl ⟨rfl, rfl⟩, thr_0 (by decide +kernel)⟩
def k151 : Code1 := [(0, .aload_n 0, 1), (1, .invokespecial 3, 3), (4, .aload_n 0, 1), (5, .new 9, 3), (8, .dup, 1), (9, .invokespecial 11, 3), (12, .putfield 12, 3), (15, .aload_n 0, 1), (16, .sipush 1200, 3), (19, .newarray .byte, 2), (21, .putfield 16, 3), (24, .aload_n 0, 1), (25, .sipush 4800, 3), (28, .newarray .int, 2), (30, .putfield 20, 3), (33, .aload_n 0, 1), (34, .new 24, 3), (37, .dup, 1), (38, .invokespecial 26, 3), (41, .putfield 27, 3), (44, .aload_n 0, 1), (45, .new 24, 3), (48, .dup, 1), (49, .invokespecial 26, 3), (52, .putfield 31, 3), (55, .aload_n 0, 1), (56, .iconst (-1), 1), (57, .putfield 34, 3), (60, .aload_n 0, 1), (61, .iconst (-1), 1), (62, .putfield 38, 3), (65, .aload_n 0, 1), (66, .new 41, 3), (69, .dup, 1), (70, .invokespecial 43, 3), (73, .putfield 44, 3), (76, .aload_n 0, 1), (77, .new 41, 3), (80, .dup, 1), (81, .invokespecial 43, 3), (84, .putfield 48, 3), (87, .aload_n 0, 1), (88, .sipush 1000, 3), (91, .newarray .int, 2), (93, .putfield 51, 3), (96, .aload_n 0, 1), (97, .ldc 54, 2), (99, .newarray .int, 2), (101, .putfield 55, 3), (104, .aload_n 0, 1), (105, .sipush 7800, 3), (108, .newarray .byte, 2), (110, .putfield 58, 3), (113, .aload_n 0, 1), (114, .bipush 31, 2), (116, .newarray .int, 2), (118, .putfield 61, 3), (121, .return_, 1)]
def X151 : MT := (k151, pl15, none, true, [])
theorem k151_d : ∀ q ∈ k151, decode cX15_init q.1 = .ok q.2 := by decide +kernel
theorem X151_ok : CodeOK (Mof mE151) X151 := ⟨code_1 k151_d (by decide +kernel), rfl, fun _ => rfl, Or.inl ⟨rfl, rfl⟩, thr_0 (by decide +kernel)⟩
def k152 : Code1 := [(0, .aload_n 0, 1), (1, .getfield 64, 3), (4, .ireturn, 1)]
def X152 : MT := (k152, pl15, (some FieldType.int), false, [])
theorem k152_d : ∀ q ∈ k152, decode cX15_thrown q.1 = .ok q.2 := by decide +kernel
theorem X152_ok : CodeOK (Mof mE152) X152 := ⟨code_1 k152_d (by decide +kernel), rfl, fun h => absurd h (by decide), Or.inl ⟨rfl, rfl⟩, thr_0 (by decide +kernel)⟩
def k153 : Code1 := [(0, .aload_n 0, 1), (1, .getfield 12, 3), (4, .iload_n 1, 1), (5, .putfield 67, 3), (8, .aload_n 0, 1), (9, .getfield 12, 3), (12, .iload_n 2, 1), (13, .putfield 70, 3), (16, .aload_n 0, 1), (17, .getfield 12, 3), (20, .areturn, 1)]
def X153 : MT := (k153, pl15, (some (FieldType.object "PathHouseModel$Stop")), false, [])
theorem k153_d : ∀ q ∈ k153, decode cX15_stop q.1 = .ok q.2 := by decide +kernel
theorem X153_ok : CodeOK (Mof mE153) X153 := ⟨code_1 k153_d (by decide +kernel), rfl, fun h => absurd h (by decide), Or.inl ⟨rfl, rfl⟩, thr_0 (by decide +kernel)⟩
def k154 : Code1 := [(0, .aload_n 0, 1), (1, .iconst 0, 1), (2, .putfield 64, 3), (5, .aload_n 0, 1), (6, .getfield 73, 3), (9, .bipush 20, 2), (11, .iadd, 1), (12, .sipush 1200, 3), (15, .if_icmp .le 5, 3), (18, .iconst (-1), 1), (19, .ireturn, 1), (20, .iconst 0, 1), (21, .istore 6, 2), (23, .iload 6, 2), (25, .bipush 20, 2), (27, .if_icmp .ge 90, 3), (30, .iload 6, 2), (32, .iconst 4, 1), (33, .if_icmp .ge 7, 3), (36, .iload_n 1, 1), (37, .goto 39, 3), (40, .iload 6, 2), (42, .bipush 8, 2), (44, .if_icmp .ge 7, 3), (47, .iload_n 2, 1), (48, .goto 28, 3), (51, .iload 6, 2), (53, .bipush 12, 2), (55, .if_icmp .ge 7, 3), (58, .iload_n 3, 1), (59, .goto 17, 3), (62, .iload 6, 2), (64, .bipush 16, 2), (66, .if_icmp .ge 8, 3), (69, .iload 4, 2), (71, .goto 5, 3), (74, .iload 5, 2), (76, .istore 7, 2), (78, .aload_n 0, 1), (79, .getfield 16, 3), (82, .aload_n 0, 1), (83, .getfield 73, 3), (86, .iload 7, 2), (88, .bipush 24, 2), (90, .bipush 8, 2), (92, .iload 6, 2), (94, .iconst 4, 1), (95, .irem, 1), (96, .imul, 1), (97, .isub, 1), (98, .ishr, 1), (99, .i2b, 1), (100, .bastore, 1), (101, .aload_n 0, 1), (102, .dup, 1), (103, .getfield 73, 3), (106, .iconst 1, 1), (107, .iadd, 1), (108, .putfield 73, 3), (111, .iinc 6 1, 3), (114, .goto (-91), 3), (117, .aload_n 0, 1), (118, .getfield 73, 3), (121, .ireturn, 1)]
def X154 : MT := (k154, pl15, (some FieldType.int), false, [])
theorem k154_d : ∀ q ∈ k154, decode cX15_feed q.1 = .ok q.2 := by decide +kernel
theorem X154_ok : CodeOK (Mof mE154) X154 := ⟨code_1 k154_d (by decide +kernel), rfl, fun h => absurd h (by decide), Or.inl ⟨rfl, rfl⟩, thr_0 (by decide +kernel)⟩
def k155 : Code1 := [(0, .iload_n 1, 1), (1, .aload_n 0, 1), (2, .getfield 76, 3), (5, .if_icmp .ge 16, 3), (8, .aload_n 0, 1), (9, .getfield 16, 3), (12, .iload_n 1, 1), (13, .baload, 1), (14, .sipush 255, 3), (17, .iand, 1), (18, .goto 4, 3), (21, .iconst (-1), 1), (22, .ireturn, 1)]
def X155 : MT := (k155, pl15, (some FieldType.int), false, [])
theorem k155_d : ∀ q ∈ k155, decode cX15_byteAt q.1 = .ok q.2 := by decide +kernel
theorem X155_ok : CodeOK (Mof mE155) X155 := ⟨code_1 k155_d (by decide +kernel), rfl, fun h => absurd h (by decide), Or.inl ⟨rfl, rfl⟩, thr_0 (by decide +kernel)⟩
def k156 : Code1 := [(0, .aload_n 0, 1), (1, .aload_n 0, 1), (2, .getfield 79, 3), (5, .invokevirtual 82, 3), (8, .ireturn, 1)]
def X156 : MT := (k156, pl15, (some FieldType.int), false, [])
theorem k156_d : ∀ q ∈ k156, decode cX15_peek q.1 = .ok q.2 := by decide +kernel
theorem X156_ok : CodeOK (Mof mE156) X156 := ⟨code_1 k156_d (by decide +kernel), rfl, fun h => absurd h (by decide), Or.inl ⟨rfl, rfl⟩, thr_0 (by decide +kernel)⟩
def k157 : Code1 := [(0, .aload_n 0, 1), (1, .invokevirtual 86, 3), (4, .iload_n 1, 1), (5, .if_icmp .ne 7, 3), (8, .iconst 1, 1), (9, .goto 4, 3), (12, .iconst 0, 1), (13, .ireturn, 1)]
def X157 : MT := (k157, pl15, (some FieldType.boolean), false, [])
theorem k157_d : ∀ q ∈ k157, decode cX15_is q.1 = .ok q.2 := by decide +kernel
theorem X157_ok : CodeOK (Mof mE157) X157 := ⟨code_1 k157_d (by decide +kernel), rfl, fun h => absurd h (by decide), Or.inl ⟨rfl, rfl⟩, thr_0 (by decide +kernel)⟩
def k158 : Code1 := [(0, .aload_n 0, 1), (1, .iconst 1, 1), (2, .aload_n 0, 1), (3, .getfield 79, 3), (6, .invokevirtual 90, 3), (9, .areturn, 1)]
def X158 : MT := (k158, pl15, (some (FieldType.object "PathHouseModel$Stop")), false, [])
theorem k158_d : ∀ q ∈ k158, decode cX15_bad q.1 = .ok q.2 := by decide +kernel
theorem X158_ok : CodeOK (Mof mE158) X158 := ⟨code_1 k158_d (by decide +kernel), rfl, fun h => absurd h (by decide), Or.inl ⟨rfl, rfl⟩, thr_0 (by decide +kernel)⟩
def k159 : Code1 := [(0, .aload_n 0, 1), (1, .iload_n 1, 1), (2, .invokevirtual 93, 3), (5, .ifCond .ne 8, 3), (8, .aload_n 0, 1), (9, .invokevirtual 97, 3), (12, .athrow, 1), (13, .aload_n 0, 1), (14, .dup, 1), (15, .getfield 79, 3), (18, .iconst 1, 1), (19, .iadd, 1), (20, .putfield 79, 3), (23, .return_, 1)]
def X159 : MT := (k159, pl15, none, false, [])
theorem k159_d : ∀ q ∈ k159, decode cX15_need q.1 = .ok q.2 := by decide +kernel
theorem X159_ok : CodeOK (Mof mE159) X159 := ⟨code_1 k159_d (by decide +kernel), rfl, fun h => absurd h (by decide), Or.inl ⟨rfl, rfl⟩, thr_0 (by decide +kernel)⟩
def k160 : Code1 := [(0, .aload_n 0, 1), (1, .bipush 32, 2), (3, .invokevirtual 93, 3), (6, .ifCond .ne 30, 3), (9, .aload_n 0, 1), (10, .bipush 9, 2), (12, .invokevirtual 93, 3), (15, .ifCond .ne 21, 3), (18, .aload_n 0, 1), (19, .bipush 10, 2), (21, .invokevirtual 93, 3), (24, .ifCond .ne 12, 3), (27, .aload_n 0, 1), (28, .bipush 13, 2), (30, .invokevirtual 93, 3), (33, .ifCond .eq 16, 3), (36, .aload_n 0, 1), (37, .dup, 1), (38, .getfield 79, 3), (41, .iconst 1, 1), (42, .iadd, 1), (43, .putfield 79, 3), (46, .goto (-46), 3), (49, .return_, 1)]
def X160 : MT := (k160, pl15, none, false, [])
theorem k160_d : ∀ q ∈ k160, decode cX15_blanks q.1 = .ok q.2 := by decide +kernel
theorem X160_ok : CodeOK (Mof mE160) X160 := ⟨code_1 k160_d (by decide +kernel), rfl, fun h => absurd h (by decide), Or.inl ⟨rfl, rfl⟩, thr_0 (by decide +kernel)⟩
def k161 : Code1 := [(0, .iload_n 0, 1), (1, .bipush 48, 2), (3, .if_icmp .lt 13, 3), (6, .iload_n 0, 1), (7, .bipush 57, 2), (9, .if_icmp .gt 7, 3), (12, .iconst 1, 1), (13, .goto 4, 3), (16, .iconst 0, 1), (17, .ireturn, 1)]
def X161 : MT := (k161, pl15, (some FieldType.boolean), false, [])
theorem k161_d : ∀ q ∈ k161, decode cX15_isDigit q.1 = .ok q.2 := by decide +kernel
theorem X161_ok : CodeOK (Mof mE161) X161 := ⟨code_1 k161_d (by decide +kernel), rfl, fun h => absurd h (by decide), Or.inl ⟨rfl, rfl⟩, thr_0 (by decide +kernel)⟩
def k162 : Code1 := [(0, .iload_n 0, 1), (1, .bipush 97, 2), (3, .if_icmp .lt 13, 3), (6, .iload_n 0, 1), (7, .bipush 122, 2), (9, .if_icmp .gt 7, 3), (12, .iconst 1, 1), (13, .goto 4, 3), (16, .iconst 0, 1), (17, .ireturn, 1)]
def X162 : MT := (k162, pl15, (some FieldType.boolean), false, [])
theorem k162_d : ∀ q ∈ k162, decode cX15_isSmall q.1 = .ok q.2 := by decide +kernel
theorem X162_ok : CodeOK (Mof mE162) X162 := ⟨code_1 k162_d (by decide +kernel), rfl, fun h => absurd h (by decide), Or.inl ⟨rfl, rfl⟩, thr_0 (by decide +kernel)⟩
def k163 : Code1 := [(0, .aload_n 0, 1), (1, .invokevirtual 86, 3), (4, .istore_n 1, 1), (5, .iload_n 1, 1), (6, .sipush 128, 3), (9, .if_icmp .ge 7, 3), (12, .iconst 0, 1), (13, .goto 58, 3), (16, .iload_n 1, 1), (17, .sipush 194, 3), (20, .if_icmp .lt 14, 3), (23, .iload_n 1, 1), (24, .sipush 224, 3), (27, .if_icmp .ge 7, 3), (30, .iconst 1, 1), (31, .goto 40, 3), (34, .iload_n 1, 1), (35, .sipush 224, 3), (38, .if_icmp .lt 14, 3), (41, .iload_n 1, 1), (42, .sipush 240, 3), (45, .if_icmp .ge 7, 3), (48, .iconst 2, 1), (49, .goto 22, 3), (52, .iload_n 1, 1), (53, .sipush 240, 3), (56, .if_icmp .lt 14, 3), (59, .iload_n 1, 1), (60, .sipush 245, 3), (63, .if_icmp .ge 7, 3), (66, .iconst 3, 1), (67, .goto 4, 3), (70, .iconst (-1), 1), (71, .istore_n 2, 1), (72, .iload_n 1, 1), (73, .iconst (-1), 1), (74, .if_icmp .eq 8, 3), (77, .iload_n 2, 1), (78, .iconst (-1), 1), (79, .if_icmp .ne 8, 3), (82, .aload_n 0, 1), (83, .invokevirtual 97, 3), (86, .athrow, 1), (87, .iload_n 2, 1), (88, .ifCond .ne 7, 3), (91, .iload_n 1, 1), (92, .goto 9, 3), (95, .iload_n 1, 1), (96, .bipush 63, 2), (98, .iload_n 2, 1), (99, .ishr, 1), (100, .iand, 1), (101, .istore_n 3, 1), (102, .iconst 1, 1), (103, .istore 4, 2), (105, .iload 4, 2), (107, .iload_n 2, 1), (108, .if_icmp .gt 56, 3), (111, .aload_n 0, 1), (112, .aload_n 0, 1), (113, .getfield 79, 3), (116, .iload 4, 2), (118, .iadd, 1), (119, .invokevirtual 82, 3), (122, .istore 5, 2), (124, .iload 5, 2), (126, .iconst (-1), 1), (127, .if_icmp .eq 15, 3), (130, .iload 5, 2), (132, .sipush 192, 3), (135, .iand, 1), (136, .sipush 128, 3), (139, .if_icmp .eq 8, 3), (142, .aload_n 0, 1), (143, .invokevirtual 97, 3), (146, .athrow, 1), (147, .iload_n 3, 1), (148, .bipush 6, 2), (150, .ishl, 1), (151, .iload 5, 2), (153, .bipush 63, 2), (155, .iand, 1), (156, .ior, 1), (157, .istore_n 3, 1), (158, .iinc 4 1, 3), (161, .goto (-56), 3), (164, .iload_n 2, 1), (165, .iconst 2, 1), (166, .if_icmp .ne 10, 3), (169, .iload_n 3, 1), (170, .sipush 2048, 3), (173, .if_icmp .lt 32, 3), (176, .iload_n 2, 1), (177, .iconst 3, 1), (178, .if_icmp .ne 9, 3), (181, .iload_n 3, 1), (182, .ldc 101, 2), (184, .if_icmp .lt 21, 3), (187, .iload_n 3, 1), (188, .ldc 102, 2), (190, .if_icmp .lt 9, 3), (193, .iload_n 3, 1), (194, .ldc 103, 2), (196, .if_icmp .lt 9, 3), (199, .iload_n 3, 1), (200, .ldc 104, 2), (202, .if_icmp .le 8, 3), (205, .aload_n 0, 1), (206, .invokevirtual 97, 3), (209, .athrow, 1), (210, .aload_n 0, 1), (211, .dup, 1), (212, .getfield 79, 3), (215, .iload_n 2, 1), (216, .iconst 1, 1), (217, .iadd, 1), (218, .iadd, 1), (219, .putfield 79, 3), (222, .iload_n 3, 1), (223, .ireturn, 1)]
def X163 : MT := (k163, pl15, (some FieldType.int), false, [])
theorem k163_d : ∀ q ∈ k163, decode cX15_character q.1 = .ok q.2 := by decide +kernel
theorem X163_ok : CodeOK (Mof mE163) X163 := ⟨code_1 k163_d (by decide +kernel), rfl, fun h => absurd h (by decide), Or.inl ⟨rfl, rfl⟩, thr_0 (by decide +kernel)⟩
def k164 : Code1 := [(0, .aload_n 0, 1), (1, .getfield 20, 3), (4, .aload_n 0, 1), (5, .getfield 105, 3), (8, .iload_n 1, 1), (9, .iastore, 1), (10, .aload_n 0, 1), (11, .dup, 1), (12, .getfield 105, 3), (15, .iconst 1, 1), (16, .iadd, 1), (17, .putfield 105, 3), (20, .return_, 1)]
def X164 : MT := (k164, pl15, none, false, [])
theorem k164_d : ∀ q ∈ k164, decode cX15_keep q.1 = .ok q.2 := by decide +kernel
theorem X164_ok : CodeOK (Mof mE164) X164 := ⟨code_1 k164_d (by decide +kernel), rfl, fun h => absurd h (by decide), Or.inl ⟨rfl, rfl⟩, thr_0 (by decide +kernel)⟩
def k165 : Code1 := [(0, .iload_n 0, 1), (1, .invokestatic 108, 3), (4, .ifCond .eq 10, 3), (7, .iload_n 0, 1), (8, .bipush 48, 2), (10, .isub, 1), (11, .goto 48, 3), (14, .iload_n 0, 1), (15, .bipush 97, 2), (17, .if_icmp .lt 19, 3), (20, .iload_n 0, 1), (21, .bipush 102, 2), (23, .if_icmp .gt 13, 3), (26, .iload_n 0, 1), (27, .bipush 97, 2), (29, .isub, 1), (30, .bipush 10, 2), (32, .iadd, 1), (33, .goto 26, 3), (36, .iload_n 0, 1), (37, .bipush 65, 2), (39, .if_icmp .lt 19, 3), (42, .iload_n 0, 1), (43, .bipush 70, 2), (45, .if_icmp .gt 13, 3), (48, .iload_n 0, 1), (49, .bipush 65, 2), (51, .isub, 1), (52, .bipush 10, 2), (54, .iadd, 1), (55, .goto 4, 3), (58, .iconst (-1), 1), (59, .ireturn, 1)]
def X165 : MT := (k165, pl15, (some FieldType.int), false, [])
theorem k165_d : ∀ q ∈ k165, decode cX15_hex q.1 = .ok q.2 := by decide +kernel
theorem X165_ok : CodeOK (Mof mE165) X165 := ⟨code_1 k165_d (by decide +kernel), rfl, fun h => absurd h (by decide), Or.inl ⟨rfl, rfl⟩, thr_0 (by decide +kernel)⟩
def k166 : Code1 := [(0, .aload_n 0, 1), (1, .invokevirtual 86, 3), (4, .invokestatic 111, 3), (7, .istore_n 3, 1), (8, .iload_n 3, 1), (9, .iload_n 1, 1), (10, .if_icmp .lt 13, 3), (13, .iload_n 3, 1), (14, .iload_n 2, 1), (15, .if_icmp .gt 8, 3), (18, .iload_n 3, 1), (19, .iconst (-1), 1), (20, .if_icmp .ne 8, 3), (23, .aload_n 0, 1), (24, .invokevirtual 97, 3), (27, .athrow, 1), (28, .aload_n 0, 1), (29, .dup, 1), (30, .getfield 79, 3), (33, .iconst 1, 1), (34, .iadd, 1), (35, .putfield 79, 3), (38, .iload_n 3, 1), (39, .ireturn, 1)]
def X166 : MT := (k166, pl15, (some FieldType.int), false, [])
theorem k166_d : ∀ q ∈ k166, decode cX15_hexDigit q.1 = .ok q.2 := by decide +kernel
theorem X166_ok : CodeOK (Mof mE166) X166 := ⟨code_1 k166_d (by decide +kernel), rfl, fun h => absurd h (by decide), Or.inl ⟨rfl, rfl⟩, thr_0 (by decide +kernel)⟩
def k167 : Code1 := [(0, .aload_n 0, 1), (1, .iconst 0, 1), (2, .bipush 15, 2), (4, .invokevirtual 114, 3), (7, .istore_n 1, 1), (8, .aload_n 0, 1), (9, .iconst 0, 1), (10, .iload_n 1, 1), (11, .bipush 13, 2), (13, .if_icmp .ne 8, 3), (16, .bipush 11, 2), (18, .goto 5, 3), (21, .bipush 15, 2), (23, .invokevirtual 114, 3), (26, .istore_n 2, 1), (27, .bipush 16, 2), (29, .iload_n 1, 1), (30, .imul, 1), (31, .iload_n 2, 1), (32, .iadd, 1), (33, .istore_n 1, 1), (34, .bipush 16, 2), (36, .iload_n 1, 1), (37, .imul, 1), (38, .aload_n 0, 1), (39, .iconst 0, 1), (40, .bipush 15, 2), (42, .invokevirtual 114, 3), (45, .iadd, 1), (46, .istore_n 1, 1), (47, .bipush 16, 2), (49, .iload_n 1, 1), (50, .imul, 1), (51, .aload_n 0, 1), (52, .iconst 0, 1), (53, .bipush 15, 2), (55, .invokevirtual 114, 3), (58, .iadd, 1), (59, .istore_n 1, 1), (60, .iload_n 1, 1), (61, .ldc 102, 2), (63, .if_icmp .lt 9, 3), (66, .iload_n 1, 1), (67, .ldc 118, 2), (69, .if_icmp .le 5, 3), (72, .iload_n 1, 1), (73, .ireturn, 1), (74, .aload_n 0, 1), (75, .bipush 92, 2), (77, .invokevirtual 119, 3), (80, .aload_n 0, 1), (81, .bipush 117, 2), (83, .invokevirtual 119, 3), (86, .aload_n 0, 1), (87, .bipush 13, 2), (89, .bipush 13, 2), (91, .invokevirtual 114, 3), (94, .istore_n 3, 1), (95, .bipush 16, 2), (97, .iload_n 3, 1), (98, .imul, 1), (99, .aload_n 0, 1), (100, .bipush 12, 2), (102, .bipush 15, 2), (104, .invokevirtual 114, 3), (107, .iadd, 1), (108, .istore_n 3, 1), (109, .bipush 16, 2), (111, .iload_n 3, 1), (112, .imul, 1), (113, .aload_n 0, 1), (114, .iconst 0, 1), (115, .bipush 15, 2), (117, .invokevirtual 114, 3), (120, .iadd, 1), (121, .istore_n 3, 1), (122, .bipush 16, 2), (124, .iload_n 3, 1), (125, .imul, 1), (126, .aload_n 0, 1), (127, .iconst 0, 1), (128, .bipush 15, 2), (130, .invokevirtual 114, 3), (133, .iadd, 1), (134, .istore_n 3, 1), (135, .ldc 101, 2), (137, .iload_n 1, 1), (138, .ldc 102, 2), (140, .isub, 1), (141, .bipush 10, 2), (143, .ishl, 1), (144, .iadd, 1), (145, .iload_n 3, 1), (146, .iadd, 1), (147, .ldc 123, 2), (149, .isub, 1), (150, .ireturn, 1)]
def X167 : MT := (k167, pl15, (some FieldType.int), false, [])
theorem k167_d : ∀ q ∈ k167, decode cX15_unit q.1 = .ok q.2 := by decide +kernel
theorem X167_ok : CodeOK (Mof mE167) X167 := ⟨code_1 k167_d (by decide +kernel), rfl, fun h => absurd h (by decide), Or.inl ⟨rfl, rfl⟩, thr_0 (by decide +kernel)⟩
def k168 : Code1 := [(0, .aload_n 0, 1), (1, .invokevirtual 86, 3), (4, .istore_n 2, 1), (5, .aload_n 0, 1), (6, .dup, 1), (7, .getfield 79, 3), (10, .iconst 1, 1), (11, .iadd, 1), (12, .putfield 79, 3), (15, .iload_n 2, 1), (16, .lookupswitch 98 #[(47, 76), (92, 76), (98, 78), (102, 81), (110, 84), (114, 87), (116, 90), (117, 93)], 76), (92, .iload_n 2, 1), (93, .ireturn, 1), (94, .bipush 8, 2), (96, .ireturn, 1), (97, .bipush 12, 2), (99, .ireturn, 1), (100, .bipush 10, 2), (102, .ireturn, 1), (103, .bipush 13, 2), (105, .ireturn, 1), (106, .bipush 9, 2), (108, .ireturn, 1), (109, .aload_n 0, 1), (110, .invokevirtual 124, 3), (113, .ireturn, 1), (114, .iload_n 2, 1), (115, .iload_n 1, 1), (116, .if_icmp .ne 10, 3), (119, .iload_n 2, 1), (120, .iconst (-1), 1), (121, .if_icmp .eq 5, 3), (124, .iload_n 2, 1), (125, .ireturn, 1), (126, .aload_n 0, 1), (127, .dup, 1), (128, .getfield 79, 3), (131, .iconst 1, 1), (132, .isub, 1), (133, .putfield 79, 3), (136, .aload_n 0, 1), (137, .invokevirtual 97, 3), (140, .athrow, 1)]
def X168 : MT := (k168, pl15, (some FieldType.int), false, [])
theorem k168_d : ∀ q ∈ k168, decode cX15_escaped q.1 = .ok q.2 := by decide +kernel
theorem X168_ok : CodeOK (Mof mE168) X168 := ⟨code_1 k168_d (by decide +kernel), rfl, fun h => absurd h (by decide), Or.inl ⟨rfl, rfl⟩, thr_0 (by decide +kernel)⟩
def k169 : Code1 := [(0, .aload_n 0, 1), (1, .invokevirtual 86, 3), (4, .istore_n 1, 1), (5, .aload_n 0, 1), (6, .getfield 105, 3), (9, .istore_n 2, 1), (10, .aload_n 0, 1), (11, .dup, 1), (12, .getfield 79, 3), (15, .iconst 1, 1), (16, .iadd, 1), (17, .putfield 79, 3), (20, .aload_n 0, 1), (21, .iload_n 1, 1), (22, .invokevirtual 93, 3), (25, .ifCond .ne 67, 3), (28, .aload_n 0, 1), (29, .invokevirtual 86, 3), (32, .iconst (-1), 1), (33, .if_icmp .eq 12, 3), (36, .aload_n 0, 1), (37, .invokevirtual 86, 3), (40, .bipush 32, 2), (42, .if_icmp .ge 8, 3), (45, .aload_n 0, 1), (46, .invokevirtual 97, 3), (49, .athrow, 1), (50, .aload_n 0, 1), (51, .bipush 92, 2), (53, .invokevirtual 93, 3), (56, .ifCond .eq 25, 3), (59, .aload_n 0, 1), (60, .dup, 1), (61, .getfield 79, 3), (64, .iconst 1, 1), (65, .iadd, 1), (66, .putfield 79, 3), (69, .aload_n 0, 1), (70, .aload_n 0, 1), (71, .iload_n 1, 1), (72, .invokevirtual 127, 3), (75, .invokevirtual 130, 3), (78, .goto (-58), 3), (81, .aload_n 0, 1), (82, .aload_n 0, 1), (83, .invokevirtual 133, 3), (86, .invokevirtual 130, 3), (89, .goto (-69), 3), (92, .aload_n 0, 1), (93, .dup, 1), (94, .getfield 79, 3), (97, .iconst 1, 1), (98, .iadd, 1), (99, .putfield 79, 3), (102, .iload_n 2, 1), (103, .ireturn, 1)]
def X169 : MT := (k169, pl15, (some FieldType.int), false, [])
theorem k169_d : ∀ q ∈ k169, decode cX15_string q.1 = .ok q.2 := by decide +kernel
theorem X169_ok : CodeOK (Mof mE169) X169 := ⟨code_1 k169_d (by decide +kernel), rfl, fun h => absurd h (by decide), Or.inl ⟨rfl, rfl⟩, thr_0 (by decide +kernel)⟩
def k170 : Code1 := [(0, .iload_n 2, 1), (1, .iload 4, 2), (3, .if_icmp .ne 7, 3), (6, .iconst 1, 1), (7, .goto 4, 3), (10, .iconst 0, 1), (11, .istore 5, 2), (13, .iconst 0, 1), (14, .istore 6, 2), (16, .iload 5, 2), (18, .ifCond .eq 43, 3), (21, .iload 6, 2), (23, .iload_n 2, 1), (24, .if_icmp .ge 37, 3), (27, .aload_n 0, 1), (28, .getfield 20, 3), (31, .iload_n 1, 1), (32, .iload 6, 2), (34, .iadd, 1), (35, .iaload, 1), (36, .aload_n 0, 1), (37, .getfield 20, 3), (40, .iload_n 3, 1), (41, .iload 6, 2), (43, .iadd, 1), (44, .iaload, 1), (45, .if_icmp .ne 7, 3), (48, .iconst 1, 1), (49, .goto 4, 3), (52, .iconst 0, 1), (53, .istore 5, 2), (55, .iinc 6 1, 3), (58, .goto (-42), 3), (61, .iload 5, 2), (63, .ireturn, 1)]
def X170 : MT := (k170, pl15, (some FieldType.boolean), false, [])
theorem k170_d : ∀ q ∈ k170, decode cX15_areSame q.1 = .ok q.2 := by decide +kernel
theorem X170_ok : CodeOK (Mof mE170) X170 := ⟨code_1 k170_d (by decide +kernel), rfl, fun h => absurd h (by decide), Or.inl ⟨rfl, rfl⟩, thr_0 (by decide +kernel)⟩
def k171 : Code1 := [(0, .aload_n 0, 1), (1, .bipush 45, 2), (3, .invokevirtual 93, 3), (6, .istore_n 2, 1), (7, .iload_n 2, 1), (8, .ifCond .eq 13, 3), (11, .aload_n 0, 1), (12, .dup, 1), (13, .getfield 79, 3), (16, .iconst 1, 1), (17, .iadd, 1), (18, .putfield 79, 3), (21, .aload_n 0, 1), (22, .invokevirtual 86, 3), (25, .invokestatic 108, 3), (28, .ifCond .eq 20, 3), (31, .iload_n 2, 1), (32, .ifCond .eq 21, 3), (35, .iload_n 1, 1), (36, .ifCond .ne 17, 3), (39, .aload_n 0, 1), (40, .bipush 48, 2), (42, .invokevirtual 93, 3), (45, .ifCond .eq 8, 3), (48, .aload_n 0, 1), (49, .invokevirtual 97, 3), (52, .athrow, 1), (53, .lconst 0, 1), (54, .lstore_n 3, 1), (55, .aload_n 0, 1), (56, .iconst 0, 1), (57, .putfield 136, 3), (60, .aload_n 0, 1), (61, .bipush 48, 2), (63, .invokevirtual 93, 3), (66, .ifCond .eq 28, 3), (69, .aload_n 0, 1), (70, .dup, 1), (71, .getfield 79, 3), (74, .iconst 1, 1), (75, .iadd, 1), (76, .putfield 79, 3), (79, .aload_n 0, 1), (80, .invokevirtual 86, 3), (83, .invokestatic 108, 3), (86, .ifCond .eq 8, 3), (89, .aload_n 0, 1), (90, .invokevirtual 97, 3), (93, .athrow, 1), (94, .aload_n 0, 1), (95, .invokevirtual 86, 3), (98, .invokestatic 108, 3), (101, .ifCond .eq 47, 3), (104, .ldc2_w 140, 3), (107, .lload_n 3, 1), (108, .lmul, 1), (109, .aload_n 0, 1), (110, .invokevirtual 86, 3), (113, .i2l, 1), (114, .ladd, 1), (115, .ldc2_w 142, 3), (118, .lsub, 1), (119, .lstore_n 3, 1), (120, .lload_n 3, 1), (121, .ldc2_w 144, 3), (124, .lcmp, 1), (125, .ifCond .le 10, 3), (128, .aload_n 0, 1), (129, .iconst 1, 1), (130, .putfield 136, 3), (133, .lconst 0, 1), (134, .lstore_n 3, 1), (135, .aload_n 0, 1), (136, .dup, 1), (137, .getfield 79, 3), (140, .iconst 1, 1), (141, .iadd, 1), (142, .putfield 79, 3), (145, .goto (-51), 3), (148, .aload_n 0, 1), (149, .iload_n 2, 1), (150, .ifCond .eq 8, 3), (153, .lload_n 3, 1), (154, .lneg, 1), (155, .goto 4, 3), (158, .lload_n 3, 1), (159, .putfield 146, 3), (162, .return_, 1)]
def X171 : MT := (k171, pl15, none, false, [])
theorem k171_d : ∀ q ∈ k171, decode cX15_integer q.1 = .ok q.2 := by decide +kernel
theorem X171_ok : CodeOK (Mof mE171) X171 := ⟨code_1 k171_d (by decide +kernel), rfl, fun h => absurd h (by decide), Or.inl ⟨rfl, rfl⟩, thr_0 (by decide +kernel)⟩
def k172 : Code1 := [(0, .iload_n 0, 1), (1, .bipush 110, 2), (3, .if_icmp .eq 46, 3), (6, .iload_n 0, 1), (7, .bipush 116, 2), (9, .if_icmp .eq 40, 3), (12, .iload_n 0, 1), (13, .bipush 102, 2), (15, .if_icmp .eq 34, 3), (18, .iload_n 0, 1), (19, .bipush 45, 2), (21, .if_icmp .eq 28, 3), (24, .iload_n 0, 1), (25, .invokestatic 108, 3), (28, .ifCond .ne 21, 3), (31, .iload_n 0, 1), (32, .bipush 34, 2), (34, .if_icmp .eq 15, 3), (37, .iload_n 0, 1), (38, .bipush 91, 2), (40, .if_icmp .eq 9, 3), (43, .iload_n 0, 1), (44, .bipush 123, 2), (46, .if_icmp .ne 7, 3), (49, .iconst 1, 1), (50, .goto 4, 3), (53, .iconst 0, 1), (54, .ireturn, 1)]
def X172 : MT := (k172, pl15, (some FieldType.boolean), false, [])
theorem k172_d : ∀ q ∈ k172, decode cX15_begins q.1 = .ok q.2 := by decide +kernel
theorem X172_ok : CodeOK (Mof mE172) X172 := ⟨code_1 k172_d (by decide +kernel), rfl, fun h => absurd h (by decide), Or.inl ⟨rfl, rfl⟩, thr_0 (by decide +kernel)⟩
def k173 : Code1 := [(0, .iconst 0, 1), (1, .istore_n 2, 1), (2, .iload_n 2, 1), (3, .aload_n 1, 1), (4, .invokevirtual 150, 3), (7, .if_icmp .ge 18, 3), (10, .aload_n 0, 1), (11, .aload_n 1, 1), (12, .iload_n 2, 1), (13, .invokevirtual 154, 3), (16, .invokevirtual 119, 3), (19, .iinc 2 1, 3), (22, .goto (-20), 3), (25, .return_, 1)]
def X173 : MT := (k173, pl15, none, false, [])
theorem k173_d : ∀ q ∈ k173, decode cX15_word q.1 = .ok q.2 := by decide +kernel
theorem X173_ok : CodeOK (Mof mE173) X173 := ⟨code_1 k173_d (by decide +kernel), rfl, fun h => absurd h (by decide), Or.inl ⟨rfl, rfl⟩, thr_0 (by decide +kernel)⟩
def k174 : Code1 := [(0, .aload_n 0, 1), (1, .invokevirtual 86, 3), (4, .istore_n 3, 1), (5, .iload_n 3, 1), (6, .invokestatic 158, 3), (9, .ifCond .ne 8, 3), (12, .aload_n 0, 1), (13, .invokevirtual 97, 3), (16, .athrow, 1), (17, .aload_n 0, 1), (18, .getfield 31, 3), (21, .getfield 161, 3), (24, .sipush 300, 3), (27, .if_icmp .eq 9, 3), (30, .iload_n 2, 1), (31, .bipush 30, 2), (33, .if_icmp .le 13, 3), (36, .aload_n 0, 1), (37, .iconst 4, 1), (38, .aload_n 0, 1), (39, .getfield 79, 3), (42, .invokevirtual 90, 3), (45, .athrow, 1), (46, .aload_n 0, 1), (47, .getfield 31, 3), (50, .getfield 161, 3), (53, .istore 4, 2), (55, .aload_n 0, 1), (56, .getfield 31, 3), (59, .dup, 1), (60, .getfield 161, 3), (63, .iconst 1, 1), (64, .iadd, 1), (65, .putfield 161, 3), (68, .aload_n 0, 1), (69, .getfield 31, 3), (72, .aload_n 0, 1), (73, .getfield 31, 3), (76, .getfield 164, 3), (79, .iload_n 2, 1), (80, .invokestatic 167, 3), (83, .putfield 164, 3), (86, .aload_n 0, 1), (87, .getfield 31, 3), (90, .getfield 172, 3), (93, .iload 4, 2), (95, .iconst (-1), 1), (96, .iastore, 1), (97, .aload_n 0, 1), (98, .getfield 31, 3), (101, .getfield 175, 3), (104, .iload 4, 2), (106, .iconst (-1), 1), (107, .iastore, 1), (108, .aload_n 0, 1), (109, .getfield 31, 3), (112, .getfield 178, 3), (115, .iload 4, 2), (117, .iconst (-1), 1), (118, .iastore, 1), (119, .aload_n 0, 1), (120, .getfield 31, 3), (123, .getfield 181, 3), (126, .iload 4, 2), (128, .iload_n 1, 1), (129, .iastore, 1), (130, .aload_n 0, 1), (131, .getfield 31, 3), (134, .getfield 184, 3), (137, .iload 4, 2), (139, .iconst 0, 1), (140, .iastore, 1), (141, .aload_n 0, 1), (142, .getfield 31, 3), (145, .getfield 187, 3), (148, .iload 4, 2), (150, .iconst (-1), 1), (151, .iastore, 1), (152, .aload_n 0, 1), (153, .getfield 31, 3), (156, .getfield 189, 3), (159, .iload 4, 2), (161, .iload_n 2, 1), (162, .iastore, 1), (163, .aload_n 0, 1), (164, .getfield 31, 3), (167, .getfield 192, 3), (170, .iload 4, 2), (172, .lconst 0, 1), (173, .lastore, 1), (174, .aload_n 0, 1), (175, .getfield 31, 3), (178, .getfield 195, 3), (181, .iload 4, 2), (183, .sipush 2400, 3), (186, .iastore, 1), (187, .aload_n 0, 1), (188, .getfield 31, 3), (191, .getfield 198, 3), (194, .iload 4, 2), (196, .sipush 2400, 3), (199, .iastore, 1), (200, .aload_n 0, 1), (201, .getfield 31, 3), (204, .getfield 201, 3), (207, .iload 4, 2), (209, .iconst 0, 1), (210, .iastore, 1), (211, .iload_n 3, 1), (212, .bipush 110, 2), (214, .if_icmp .ne 23, 3), (217, .aload_n 0, 1), (218, .ldc 204, 2), (220, .invokevirtual 206, 3), (223, .aload_n 0, 1), (224, .getfield 31, 3), (227, .getfield 210, 3), (230, .iload 4, 2), (232, .iconst 0, 1), (233, .iastore, 1), (234, .goto 197, 3), (237, .iload_n 3, 1), (238, .bipush 102, 2), (240, .if_icmp .ne 23, 3), (243, .aload_n 0, 1), (244, .ldc 212, 2), (246, .invokevirtual 206, 3), (249, .aload_n 0, 1), (250, .getfield 31, 3), (253, .getfield 210, 3), (256, .iload 4, 2), (258, .iconst 1, 1), (259, .iastore, 1), (260, .goto 171, 3), (263, .iload_n 3, 1), (264, .bipush 116, 2), (266, .if_icmp .ne 23, 3), (269, .aload_n 0, 1), (270, .ldc 214, 2), (272, .invokevirtual 206, 3), (275, .aload_n 0, 1), (276, .getfield 31, 3), (279, .getfield 210, 3), (282, .iload 4, 2), (284, .iconst 2, 1), (285, .iastore, 1), (286, .goto 145, 3), (289, .iload_n 3, 1), (290, .bipush 34, 2), (292, .if_icmp .ne 56, 3), (295, .aload_n 0, 1), (296, .getfield 31, 3), (299, .getfield 210, 3), (302, .iload 4, 2), (304, .iconst 4, 1), (305, .iastore, 1), (306, .aload_n 0, 1), (307, .getfield 31, 3), (310, .getfield 195, 3), (313, .iload 4, 2), (315, .aload_n 0, 1), (316, .invokevirtual 216, 3), (319, .iastore, 1), (320, .aload_n 0, 1), (321, .getfield 31, 3), (324, .getfield 184, 3), (327, .iload 4, 2), (329, .aload_n 0, 1), (330, .getfield 105, 3), (333, .aload_n 0, 1), (334, .getfield 31, 3), (337, .getfield 195, 3), (340, .iload 4, 2), (342, .iaload, 1), (343, .isub, 1), (344, .iastore, 1), (345, .goto 86, 3), (348, .iload_n 3, 1), (349, .bipush 91, 2), (351, .if_icmp .ne 13, 3), (354, .aload_n 0, 1), (355, .iload 4, 2), (357, .iload_n 2, 1), (358, .invokevirtual 219, 3), (361, .goto 70, 3), (364, .iload_n 3, 1), (365, .bipush 123, 2), (367, .if_icmp .ne 13, 3), (370, .aload_n 0, 1), (371, .iload 4, 2), (373, .iload_n 2, 1), (374, .invokevirtual 223, 3), (377, .goto 54, 3), (380, .aload_n 0, 1), (381, .getfield 79, 3), (384, .istore 5, 2), (386, .aload_n 0, 1), (387, .iconst 1, 1), (388, .invokevirtual 226, 3), (391, .aload_n 0, 1), (392, .getfield 136, 3), (395, .ifCond .eq 11, 3), (398, .aload_n 0, 1), (399, .iconst 3, 1), (400, .iload 5, 2), (402, .invokevirtual 90, 3), (405, .athrow, 1), (406, .aload_n 0, 1), (407, .getfield 31, 3), (410, .getfield 210, 3), (413, .iload 4, 2), (415, .iconst 3, 1), (416, .iastore, 1), (417, .aload_n 0, 1), (418, .getfield 31, 3), (421, .getfield 192, 3), (424, .iload 4, 2), (426, .aload_n 0, 1), (427, .getfield 146, 3), (430, .lastore, 1), (431, .iload 4, 2), (433, .ireturn, 1)]
def X174 : MT := (k174, pl15, (some FieldType.int), false, [])
theorem k174_d : ∀ q ∈ k174, decode cX15_value q.1 = .ok q.2 := by decide +kernel
theorem X174_ok : CodeOK (Mof mE174) X174 := ⟨code_1 k174_d (by decide +kernel), rfl, fun h => absurd h (by decide), Or.inl ⟨rfl, rfl⟩, thr_0 (by decide +kernel)⟩
def k175 : Code1 := [(0, .aload_n 0, 1), (1, .getfield 31, 3), (4, .getfield 187, 3), (7, .iload_n 2, 1), (8, .aload_n 0, 1), (9, .getfield 31, 3), (12, .getfield 184, 3), (15, .iload_n 1, 1), (16, .iaload, 1), (17, .iastore, 1), (18, .aload_n 0, 1), (19, .getfield 31, 3), (22, .getfield 172, 3), (25, .iload_n 1, 1), (26, .iaload, 1), (27, .iconst (-1), 1), (28, .if_icmp .ne 16, 3), (31, .aload_n 0, 1), (32, .getfield 31, 3), (35, .getfield 172, 3), (38, .iload_n 1, 1), (39, .iload_n 2, 1), (40, .iastore, 1), (41, .goto 21, 3), (44, .aload_n 0, 1), (45, .getfield 31, 3), (48, .getfield 178, 3), (51, .aload_n 0, 1), (52, .getfield 31, 3), (55, .getfield 175, 3), (58, .iload_n 1, 1), (59, .iaload, 1), (60, .iload_n 2, 1), (61, .iastore, 1), (62, .aload_n 0, 1), (63, .getfield 31, 3), (66, .getfield 175, 3), (69, .iload_n 1, 1), (70, .iload_n 2, 1), (71, .iastore, 1), (72, .aload_n 0, 1), (73, .getfield 31, 3), (76, .getfield 184, 3), (79, .iload_n 1, 1), (80, .dup2, 1), (81, .iaload, 1), (82, .iconst 1, 1), (83, .iadd, 1), (84, .iastore, 1), (85, .return_, 1)]
def X175 : MT := (k175, pl15, none, false, [])
theorem k175_d : ∀ q ∈ k175, decode cX15_hang q.1 = .ok q.2 := by decide +kernel
theorem X175_ok : CodeOK (Mof mE175) X175 := ⟨code_1 k175_d (by decide +kernel), rfl, fun h => absurd h (by decide), Or.inl ⟨rfl, rfl⟩, thr_0 (by decide +kernel)⟩
def k176 : Code1 := [(0, .aload_n 0, 1), (1, .getfield 31, 3), (4, .getfield 210, 3), (7, .iload_n 1, 1), (8, .iconst 5, 1), (9, .iastore, 1), (10, .aload_n 0, 1), (11, .dup, 1), (12, .getfield 79, 3), (15, .iconst 1, 1), (16, .iadd, 1), (17, .putfield 79, 3), (20, .aload_n 0, 1), (21, .invokevirtual 230, 3), (24, .aload_n 0, 1), (25, .bipush 93, 2), (27, .invokevirtual 93, 3), (30, .ifCond .eq 14, 3), (33, .aload_n 0, 1), (34, .dup, 1), (35, .getfield 79, 3), (38, .iconst 1, 1), (39, .iadd, 1), (40, .putfield 79, 3), (43, .return_, 1), (44, .iconst 1, 1), (45, .istore_n 3, 1), (46, .iload_n 3, 1), (47, .ifCond .eq 51, 3), (50, .aload_n 0, 1), (51, .iload_n 1, 1), (52, .aload_n 0, 1), (53, .iload_n 1, 1), (54, .iload_n 2, 1), (55, .iconst 1, 1), (56, .iadd, 1), (57, .invokevirtual 233, 3), (60, .invokevirtual 236, 3), (63, .aload_n 0, 1), (64, .invokevirtual 230, 3), (67, .aload_n 0, 1), (68, .bipush 44, 2), (70, .invokevirtual 93, 3), (73, .istore_n 3, 1), (74, .iload_n 3, 1), (75, .ifCond .ne 6, 3), (78, .goto (-32), 3), (81, .aload_n 0, 1), (82, .dup, 1), (83, .getfield 79, 3), (86, .iconst 1, 1), (87, .iadd, 1), (88, .putfield 79, 3), (91, .aload_n 0, 1), (92, .invokevirtual 230, 3), (95, .goto (-49), 3), (98, .aload_n 0, 1), (99, .bipush 93, 2), (101, .invokevirtual 119, 3), (104, .return_, 1)]
def X176 : MT := (k176, pl15, none, false, [])
theorem k176_d : ∀ q ∈ k176, decode cX15_array q.1 = .ok q.2 := by decide +kernel
theorem X176_ok : CodeOK (Mof mE176) X176 := ⟨code_1 k176_d (by decide +kernel), rfl, fun h => absurd h (by decide), Or.inl ⟨rfl, rfl⟩, thr_0 (by decide +kernel)⟩
def k177 : Code1 := [(0, .aload_n 0, 1), (1, .getfield 31, 3), (4, .getfield 210, 3), (7, .iload_n 1, 1), (8, .bipush 6, 2), (10, .iastore, 1), (11, .aload_n 0, 1), (12, .dup, 1), (13, .getfield 79, 3), (16, .iconst 1, 1), (17, .iadd, 1), (18, .putfield 79, 3), (21, .aload_n 0, 1), (22, .invokevirtual 230, 3), (25, .aload_n 0, 1), (26, .bipush 125, 2), (28, .invokevirtual 93, 3), (31, .ifCond .eq 14, 3), (34, .aload_n 0, 1), (35, .dup, 1), (36, .getfield 79, 3), (39, .iconst 1, 1), (40, .iadd, 1), (41, .putfield 79, 3), (44, .return_, 1), (45, .iconst 1, 1), (46, .istore_n 3, 1), (47, .iload_n 3, 1), (48, .ifCond .eq 199, 3), (51, .aload_n 0, 1), (52, .getfield 79, 3), (55, .istore 4, 2), (57, .aload_n 0, 1), (58, .bipush 34, 2), (60, .invokevirtual 93, 3), (63, .ifCond .ne 8, 3), (66, .aload_n 0, 1), (67, .invokevirtual 97, 3), (70, .athrow, 1), (71, .aload_n 0, 1), (72, .invokevirtual 216, 3), (75, .istore 5, 2), (77, .aload_n 0, 1), (78, .getfield 105, 3), (81, .iload 5, 2), (83, .isub, 1), (84, .istore 6, 2), (86, .aload_n 0, 1), (87, .getfield 31, 3), (90, .getfield 172, 3), (93, .iload_n 1, 1), (94, .iaload, 1), (95, .istore 7, 2), (97, .iload 7, 2), (99, .iconst (-1), 1), (100, .if_icmp .eq 57, 3), (103, .aload_n 0, 1), (104, .iload 5, 2), (106, .iload 6, 2), (108, .aload_n 0, 1), (109, .getfield 31, 3), (112, .getfield 198, 3), (115, .iload 7, 2), (117, .iaload, 1), (118, .aload_n 0, 1), (119, .getfield 31, 3), (122, .getfield 201, 3), (125, .iload 7, 2), (127, .iaload, 1), (128, .invokevirtual 239, 3), (131, .ifCond .eq 11, 3), (134, .aload_n 0, 1), (135, .iconst 2, 1), (136, .iload 4, 2), (138, .invokevirtual 90, 3), (141, .athrow, 1), (142, .aload_n 0, 1), (143, .getfield 31, 3), (146, .getfield 178, 3), (149, .iload 7, 2), (151, .iaload, 1), (152, .istore 7, 2), (154, .goto (-57), 3), (157, .aload_n 0, 1), (158, .invokevirtual 230, 3), (161, .aload_n 0, 1), (162, .bipush 58, 2), (164, .invokevirtual 119, 3), (167, .aload_n 0, 1), (168, .invokevirtual 230, 3), (171, .aload_n 0, 1), (172, .iload_n 1, 1), (173, .iload_n 2, 1), (174, .iconst 1, 1), (175, .iadd, 1), (176, .invokevirtual 233, 3), (179, .istore 7, 2), (181, .aload_n 0, 1), (182, .getfield 31, 3), (185, .getfield 198, 3), (188, .iload 7, 2), (190, .iload 5, 2), (192, .iastore, 1), (193, .aload_n 0, 1), (194, .getfield 31, 3), (197, .getfield 201, 3), (200, .iload 7, 2), (202, .iload 6, 2), (204, .iastore, 1), (205, .aload_n 0, 1), (206, .iload_n 1, 1), (207, .iload 7, 2), (209, .invokevirtual 236, 3), (212, .aload_n 0, 1), (213, .invokevirtual 230, 3), (216, .aload_n 0, 1), (217, .bipush 44, 2), (219, .invokevirtual 93, 3), (222, .istore_n 3, 1), (223, .iload_n 3, 1), (224, .ifCond .ne 6, 3), (227, .goto (-180), 3), (230, .aload_n 0, 1), (231, .dup, 1), (232, .getfield 79, 3), (235, .iconst 1, 1), (236, .iadd, 1), (237, .putfield 79, 3), (240, .aload_n 0, 1), (241, .invokevirtual 230, 3), (244, .goto (-197), 3), (247, .aload_n 0, 1), (248, .bipush 125, 2), (250, .invokevirtual 119, 3), (253, .return_, 1)]
def X177 : MT := (k177, pl15, none, false, [])
theorem k177_d : ∀ q ∈ k177, decode cX15_object q.1 = .ok q.2 := by decide +kernel
theorem X177_ok : CodeOK (Mof mE177) X177 := ⟨code_1 k177_d (by decide +kernel), rfl, fun h => absurd h (by decide), Or.inl ⟨rfl, rfl⟩, thr_0 (by decide +kernel)⟩
def k178 : Code1 := [(0, .aload_n 0, 1), (1, .iload_n 1, 1), (2, .putfield 34, 3), (5, .aload_n 0, 1), (6, .iload_n 2, 1), (7, .putfield 38, 3), (10, .iload_n 1, 1), (11, .ireturn, 1)]
def X178 : MT := (k178, pl15, (some FieldType.int), false, [])
theorem k178_d : ∀ q ∈ k178, decode cX15_told q.1 = .ok q.2 := by decide +kernel
theorem X178_ok : CodeOK (Mof mE178) X178 := ⟨code_1 k178_d (by decide +kernel), rfl, fun h => absurd h (by decide), Or.inl ⟨rfl, rfl⟩, thr_0 (by decide +kernel)⟩
def k179 : Code1 := [(0, .aload_n 0, 1), (1, .iconst 0, 1), (2, .putfield 64, 3), (5, .iload_n 1, 1), (6, .ifCond .lt 11, 3), (9, .iload_n 1, 1), (10, .aload_n 0, 1), (11, .getfield 73, 3), (14, .if_icmp .le 5, 3), (17, .iconst (-1), 1), (18, .ireturn, 1), (19, .aload_n 0, 1), (20, .iconst 0, 1), (21, .putfield 73, 3), (24, .aload_n 0, 1), (25, .iload_n 1, 1), (26, .putfield 76, 3), (29, .aload_n 0, 1), (30, .iconst 0, 1), (31, .putfield 79, 3), (34, .aload_n 0, 1), (35, .sipush 2400, 3), (38, .putfield 105, 3), (41, .aload_n 0, 1), (42, .getfield 31, 3), (45, .iconst 0, 1), (46, .putfield 161, 3), (49, .aload_n 0, 1), (50, .getfield 31, 3), (53, .iconst 0, 1), (54, .putfield 164, 3), (57, .aload_n 0, 1), (58, .invokevirtual 230, 3), (61, .aload_n 0, 1), (62, .iconst (-1), 1), (63, .iconst 1, 1), (64, .invokevirtual 233, 3), (67, .istore_n 2, 1), (68, .aload_n 0, 1), (69, .invokevirtual 230, 3), (72, .aload_n 0, 1), (73, .getfield 79, 3), (76, .aload_n 0, 1), (77, .getfield 76, 3), (80, .if_icmp .ge 8, 3), (83, .aload_n 0, 1), (84, .invokevirtual 97, 3), (87, .athrow, 1), (88, .goto 17, 3), (91, .astore_n 2, 1), (92, .aload_n 0, 1), (93, .aload_n 2, 1), (94, .getfield 67, 3), (97, .aload_n 2, 1), (98, .getfield 70, 3), (101, .invokevirtual 243, 3), (104, .ireturn, 1), (105, .sipush 2400, 3), (108, .istore_n 2, 1), (109, .iload_n 2, 1), (110, .aload_n 0, 1), (111, .getfield 105, 3), (114, .if_icmp .ge 25, 3), (117, .aload_n 0, 1), (118, .getfield 20, 3), (121, .iload_n 2, 1), (122, .sipush 2400, 3), (125, .isub, 1), (126, .aload_n 0, 1), (127, .getfield 20, 3), (130, .iload_n 2, 1), (131, .iaload, 1), (132, .iastore, 1), (133, .iinc 2 1, 3), (136, .goto (-27), 3), (139, .iconst 0, 1), (140, .istore_n 2, 1), (141, .iload_n 2, 1), (142, .aload_n 0, 1), (143, .getfield 31, 3), (146, .getfield 161, 3), (149, .if_icmp .ge 39, 3), (152, .aload_n 0, 1), (153, .getfield 31, 3), (156, .getfield 195, 3), (159, .iload_n 2, 1), (160, .dup2, 1), (161, .iaload, 1), (162, .sipush 2400, 3), (165, .isub, 1), (166, .iastore, 1), (167, .aload_n 0, 1), (168, .getfield 31, 3), (171, .getfield 198, 3), (174, .iload_n 2, 1), (175, .dup2, 1), (176, .iaload, 1), (177, .sipush 2400, 3), (180, .isub, 1), (181, .iastore, 1), (182, .iinc 2 1, 3), (185, .goto (-44), 3), (188, .aload_n 0, 1), (189, .getfield 27, 3), (192, .astore_n 2, 1), (193, .aload_n 0, 1), (194, .aload_n 0, 1), (195, .getfield 31, 3), (198, .putfield 27, 3), (201, .aload_n 0, 1), (202, .aload_n 2, 1), (203, .putfield 31, 3), (206, .aload_n 0, 1), (207, .iconst 1, 1), (208, .putfield 246, 3), (211, .aload_n 0, 1), (212, .iconst 0, 1), (213, .putfield 249, 3), (216, .aload_n 0, 1), (217, .iconst 0, 1), (218, .iconst (-1), 1), (219, .invokevirtual 243, 3), (222, .ireturn, 1)]
def X179 : MT := (k179, pl15, (some FieldType.int), false, [(57, 88, 91, 16)])
theorem k179_d : ∀ q ∈ k179, decode cX15_json q.1 = .ok q.2 := by decide +kernel
theorem X179_ok : CodeOK (Mof mE179) X179 := ⟨code_1 k179_d (by decide +kernel), rfl, fun h => absurd h (by decide), Or.inr ⟨57, 88, 91, 9, 16, rfl, rfl, by decide, Or.inl ⟨rfl, gw (tw6 (i := 84) rfl) rfl⟩⟩, thr_0 (by decide +kernel)⟩
def k180 : Code1 := [(0, .aload_n 0, 1), (1, .iconst 0, 1), (2, .putfield 64, 3), (5, .iload_n 1, 1), (6, .ifCond .ne 10, 3), (9, .aload_n 0, 1), (10, .getfield 34, 3), (13, .goto 16, 3), (16, .iload_n 1, 1), (17, .iconst 1, 1), (18, .if_icmp .ne 10, 3), (21, .aload_n 0, 1), (22, .getfield 38, 3), (25, .goto 4, 3), (28, .iconst (-1), 1), (29, .ireturn, 1)]
def X180 : MT := (k180, pl15, (some FieldType.int), false, [])
theorem k180_d : ∀ q ∈ k180, decode cX15_fault q.1 = .ok q.2 := by decide +kernel
theorem X180_ok : CodeOK (Mof mE180) X180 := ⟨code_1 k180_d (by decide +kernel), rfl, fun h => absurd h (by decide), Or.inl ⟨rfl, rfl⟩, thr_0 (by decide +kernel)⟩
end
section
def k181 : Code1 := [(0, .aload_n 0, 1), (1, .getfield 48, 3), (4, .getfield 252, 3), (7, .istore_n 2, 1), (8, .aload_n 0, 1), (9, .getfield 48, 3), (12, .dup, 1), (13, .getfield 252, 3), (16, .iconst 1, 1), (17, .iadd, 1), (18, .putfield 252, 3), (21, .aload_n 0, 1), (22, .getfield 48, 3), (25, .getfield 253, 3), (28, .iload_n 2, 1), (29, .iload_n 1, 1), (30, .iastore, 1), (31, .aload_n 0, 1), (32, .getfield 48, 3), (35, .getfield 254, 3), (38, .iload_n 2, 1), (39, .iconst (-1), 1), (40, .iastore, 1), (41, .aload_n 0, 1), (42, .getfield 48, 3), (45, .getfield 257, 3), (48, .iload_n 2, 1), (49, .iconst (-1), 1), (50, .iastore, 1), (51, .aload_n 0, 1), (52, .getfield 48, 3), (55, .getfield 260, 3), (58, .iload_n 2, 1), (59, .iconst (-1), 1), (60, .iastore, 1), (61, .aload_n 0, 1), (62, .getfield 48, 3), (65, .getfield 261, 3), (68, .iload_n 2, 1), (69, .iconst 0, 1), (70, .iastore, 1), (71, .iload_n 2, 1), (72, .ireturn, 1)]
def X181 : MT := (k181, pl15, (some FieldType.int), false, [])
theorem k181_d : ∀ q ∈ k181, decode cX15_part q.1 = .ok q.2 := by decide +kernel
theorem X181_ok : CodeOK (Mof mE181) X181 := ⟨code_1 k181_d (by decide +kernel), rfl, fun h => absurd h (by decide), Or.inl ⟨rfl, rfl⟩, thr_0 (by decide +kernel)⟩
def k182 : Code1 := [(0, .aload_n 0, 1), (1, .getfield 264, 3), (4, .iconst (-1), 1), (5, .if_icmp .eq 12, 3), (8, .aload_n 0, 1), (9, .getfield 264, 3), (12, .iload_n 2, 1), (13, .if_icmp .gt 4, 3), (16, .return_, 1), (17, .aload_n 0, 1), (18, .iload_n 1, 1), (19, .putfield 267, 3), (22, .aload_n 0, 1), (23, .iload_n 2, 1), (24, .putfield 264, 3), (27, .return_, 1)]
def X182 : MT := (k182, pl15, none, false, [])
theorem k182_d : ∀ q ∈ k182, decode cX15_late q.1 = .ok q.2 := by decide +kernel
theorem X182_ok : CodeOK (Mof mE182) X182 := ⟨code_1 k182_d (by decide +kernel), rfl, fun h => absurd h (by decide), Or.inl ⟨rfl, rfl⟩, thr_0 (by decide +kernel)⟩
def k183 : Code1 := [(0, .aload_n 0, 1), (1, .getfield 270, 3), (4, .bipush 16, 2), (6, .if_icmp .ne 13, 3), (9, .aload_n 0, 1), (10, .iconst 4, 1), (11, .aload_n 0, 1), (12, .getfield 79, 3), (15, .invokevirtual 90, 3), (18, .athrow, 1), (19, .aload_n 0, 1), (20, .dup, 1), (21, .getfield 270, 3), (24, .iconst 1, 1), (25, .iadd, 1), (26, .putfield 270, 3), (29, .return_, 1)]
def X183 : MT := (k183, pl15, none, false, [])
theorem k183_d : ∀ q ∈ k183, decode cX15_opens q.1 = .ok q.2 := by decide +kernel
theorem X183_ok : CodeOK (Mof mE183) X183 := ⟨code_1 k183_d (by decide +kernel), rfl, fun h => absurd h (by decide), Or.inl ⟨rfl, rfl⟩, thr_0 (by decide +kernel)⟩
def k184 : Code1 := [(0, .iload_n 1, 1), (1, .invokestatic 273, 3), (4, .ifCond .ne 27, 3), (7, .iload_n 1, 1), (8, .bipush 65, 2), (10, .if_icmp .lt 9, 3), (13, .iload_n 1, 1), (14, .bipush 90, 2), (16, .if_icmp .le 15, 3), (19, .iload_n 1, 1), (20, .bipush 95, 2), (22, .if_icmp .eq 9, 3), (25, .iload_n 1, 1), (26, .bipush 127, 2), (28, .if_icmp .le 7, 3), (31, .iconst 1, 1), (32, .goto 4, 3), (35, .iconst 0, 1), (36, .ireturn, 1)]
def X184 : MT := (k184, pl15, (some FieldType.boolean), false, [])
theorem k184_d : ∀ q ∈ k184, decode cX15_isLetter q.1 = .ok q.2 := by decide +kernel
theorem X184_ok : CodeOK (Mof mE184) X184 := ⟨code_1 k184_d (by decide +kernel), rfl, fun h => absurd h (by decide), Or.inl ⟨rfl, rfl⟩, thr_0 (by decide +kernel)⟩
def k185 : Code1 := [(0, .aload_n 0, 1), (1, .getfield 79, 3), (4, .istore_n 1, 1), (5, .aload_n 0, 1), (6, .iconst 0, 1), (7, .invokevirtual 226, 3), (10, .aload_n 0, 1), (11, .getfield 136, 3), (14, .ifCond .eq 9, 3), (17, .aload_n 0, 1), (18, .iconst 3, 1), (19, .iload_n 1, 1), (20, .invokevirtual 276, 3), (23, .aload_n 0, 1), (24, .getfield 146, 3), (27, .lreturn, 1)]
def X185 : MT := (k185, pl15, (some FieldType.long), false, [])
theorem k185_d : ∀ q ∈ k185, decode cX15_selected q.1 = .ok q.2 := by decide +kernel
theorem X185_ok : CodeOK (Mof mE185) X185 := ⟨code_1 k185_d (by decide +kernel), rfl, fun h => absurd h (by decide), Or.inl ⟨rfl, rfl⟩, thr_0 (by decide +kernel)⟩
def k186 : Code1 := [(0, .aload_n 0, 1), (1, .bipush 45, 2), (3, .invokevirtual 93, 3), (6, .ifCond .ne 13, 3), (9, .aload_n 0, 1), (10, .invokevirtual 86, 3), (13, .invokestatic 108, 3), (16, .ifCond .eq 7, 3), (19, .iconst 1, 1), (20, .goto 4, 3), (23, .iconst 0, 1), (24, .ireturn, 1)]
def X186 : MT := (k186, pl15, (some FieldType.boolean), false, [])
theorem k186_d : ∀ q ∈ k186, decode cX15_isInteger q.1 = .ok q.2 := by decide +kernel
theorem X186_ok : CodeOK (Mof mE186) X186 := ⟨code_1 k186_d (by decide +kernel), rfl, fun h => absurd h (by decide), Or.inl ⟨rfl, rfl⟩, thr_0 (by decide +kernel)⟩
def k187 : Code1 := [(0, .aload_n 0, 1), (1, .iconst 1, 1), (2, .invokevirtual 279, 3), (5, .istore_n 2, 1), (6, .aload_n 0, 1), (7, .getfield 48, 3), (10, .getfield 254, 3), (13, .iload_n 2, 1), (14, .iload_n 1, 1), (15, .iastore, 1), (16, .aload_n 0, 1), (17, .getfield 48, 3), (20, .getfield 257, 3), (23, .iload_n 2, 1), (24, .aload_n 0, 1), (25, .getfield 105, 3), (28, .iload_n 1, 1), (29, .isub, 1), (30, .iastore, 1), (31, .iload_n 2, 1), (32, .ireturn, 1)]
def X187 : MT := (k187, pl15, (some FieldType.int), false, [])
theorem k187_d : ∀ q ∈ k187, decode cX15_name q.1 = .ok q.2 := by decide +kernel
theorem X187_ok : CodeOK (Mof mE187) X187 := ⟨code_1 k187_d (by decide +kernel), rfl, fun h => absurd h (by decide), Or.inl ⟨rfl, rfl⟩, thr_0 (by decide +kernel)⟩
def k188 : Code1 := [(0, .aload_n 0, 1), (1, .getfield 48, 3), (4, .getfield 253, 3), (7, .iload_n 1, 1), (8, .iconst 4, 1), (9, .iastore, 1), (10, .aload_n 0, 1), (11, .bipush 58, 2), (13, .invokevirtual 119, 3), (16, .aload_n 0, 1), (17, .invokevirtual 230, 3), (20, .aload_n 0, 1), (21, .invokevirtual 282, 3), (24, .ifCond .eq 33, 3), (27, .aload_n 0, 1), (28, .getfield 48, 3), (31, .getfield 286, 3), (34, .iload_n 1, 1), (35, .aload_n 0, 1), (36, .invokevirtual 289, 3), (39, .lastore, 1), (40, .aload_n 0, 1), (41, .getfield 48, 3), (44, .getfield 261, 3), (47, .iload_n 1, 1), (48, .dup2, 1), (49, .iaload, 1), (50, .iconst 2, 1), (51, .ior, 1), (52, .iastore, 1), (53, .aload_n 0, 1), (54, .invokevirtual 230, 3), (57, .aload_n 0, 1), (58, .bipush 58, 2), (60, .invokevirtual 93, 3), (63, .ifCond .ne 5, 3), (66, .iload_n 1, 1), (67, .ireturn, 1), (68, .aload_n 0, 1), (69, .dup, 1), (70, .getfield 79, 3), (73, .iconst 1, 1), (74, .iadd, 1), (75, .putfield 79, 3), (78, .aload_n 0, 1), (79, .invokevirtual 230, 3), (82, .aload_n 0, 1), (83, .invokevirtual 282, 3), (86, .ifCond .eq 29, 3), (89, .aload_n 0, 1), (90, .getfield 48, 3), (93, .getfield 293, 3), (96, .iload_n 1, 1), (97, .aload_n 0, 1), (98, .invokevirtual 289, 3), (101, .lastore, 1), (102, .aload_n 0, 1), (103, .getfield 48, 3), (106, .getfield 261, 3), (109, .iload_n 1, 1), (110, .dup2, 1), (111, .iaload, 1), (112, .iconst 4, 1), (113, .ior, 1), (114, .iastore, 1), (115, .iload_n 1, 1), (116, .ireturn, 1)]
def X188 : MT := (k188, pl15, (some FieldType.int), false, [])
theorem k188_d : ∀ q ∈ k188, decode cX15_slice q.1 = .ok q.2 := by decide +kernel
theorem X188_ok : CodeOK (Mof mE188) X188 := ⟨code_1 k188_d (by decide +kernel), rfl, fun h => absurd h (by decide), Or.inl ⟨rfl, rfl⟩, thr_0 (by decide +kernel)⟩
def k189 : Code1 := [(0, .aload_n 0, 1), (1, .bipush 34, 2), (3, .invokevirtual 93, 3), (6, .ifCond .ne 12, 3), (9, .aload_n 0, 1), (10, .bipush 39, 2), (12, .invokevirtual 93, 3), (15, .ifCond .eq 12, 3), (18, .aload_n 0, 1), (19, .aload_n 0, 1), (20, .invokevirtual 216, 3), (23, .invokevirtual 296, 3), (26, .ireturn, 1), (27, .aload_n 0, 1), (28, .invokevirtual 282, 3), (31, .ifCond .eq 69, 3), (34, .aload_n 0, 1), (35, .iconst 3, 1), (36, .invokevirtual 279, 3), (39, .istore_n 2, 1), (40, .aload_n 0, 1), (41, .getfield 48, 3), (44, .getfield 298, 3), (47, .iload_n 2, 1), (48, .aload_n 0, 1), (49, .invokevirtual 289, 3), (52, .lastore, 1), (53, .aload_n 0, 1), (54, .getfield 48, 3), (57, .getfield 261, 3), (60, .iload_n 2, 1), (61, .iconst 1, 1), (62, .iastore, 1), (63, .iload_n 1, 1), (64, .ifCond .eq 5, 3), (67, .iload_n 2, 1), (68, .ireturn, 1), (69, .aload_n 0, 1), (70, .getfield 79, 3), (73, .istore_n 3, 1), (74, .aload_n 0, 1), (75, .invokevirtual 230, 3), (78, .aload_n 0, 1), (79, .bipush 58, 2), (81, .invokevirtual 93, 3), (84, .ifCond .eq 9, 3), (87, .aload_n 0, 1), (88, .iload_n 2, 1), (89, .invokevirtual 301, 3), (92, .ireturn, 1), (93, .aload_n 0, 1), (94, .iload_n 3, 1), (95, .putfield 79, 3), (98, .iload_n 2, 1), (99, .ireturn, 1), (100, .iload_n 1, 1), (101, .ifCond .eq 8, 3), (104, .aload_n 0, 1), (105, .invokevirtual 97, 3), (108, .athrow, 1), (109, .aload_n 0, 1), (110, .bipush 58, 2), (112, .invokevirtual 93, 3), (115, .ifCond .eq 13, 3), (118, .aload_n 0, 1), (119, .aload_n 0, 1), (120, .iconst 4, 1), (121, .invokevirtual 279, 3), (124, .invokevirtual 301, 3), (127, .ireturn, 1), (128, .aload_n 0, 1), (129, .bipush 42, 2), (131, .invokevirtual 93, 3), (134, .ifCond .eq 24, 3), (137, .aload_n 0, 1), (138, .dup, 1), (139, .getfield 79, 3), (142, .iconst 1, 1), (143, .iadd, 1), (144, .putfield 79, 3), (147, .aload_n 0, 1), (148, .iconst 0, 1), (149, .putfield 304, 3), (152, .aload_n 0, 1), (153, .iconst 2, 1), (154, .invokevirtual 279, 3), (157, .ireturn, 1), (158, .aload_n 0, 1), (159, .bipush 63, 2), (161, .invokevirtual 93, 3), (164, .ifCond .ne 8, 3), (167, .aload_n 0, 1), (168, .invokevirtual 97, 3), (171, .athrow, 1), (172, .aload_n 0, 1), (173, .invokevirtual 307, 3), (176, .aload_n 0, 1), (177, .iconst 5, 1), (178, .invokevirtual 279, 3), (181, .istore_n 2, 1), (182, .aload_n 0, 1), (183, .dup, 1), (184, .getfield 79, 3), (187, .iconst 1, 1), (188, .iadd, 1), (189, .putfield 79, 3), (192, .aload_n 0, 1), (193, .invokevirtual 230, 3), (196, .aload_n 0, 1), (197, .getfield 48, 3), (200, .getfield 254, 3), (203, .iload_n 2, 1), (204, .aload_n 0, 1), (205, .iconst (-1), 1), (206, .invokevirtual 310, 3), (209, .iastore, 1), (210, .aload_n 0, 1), (211, .dup, 1), (212, .getfield 270, 3), (215, .iconst 1, 1), (216, .isub, 1), (217, .putfield 270, 3), (220, .iload_n 2, 1), (221, .ireturn, 1)]
def X189 : MT := (k189, pl15, (some FieldType.int), false, [])
theorem k189_d : ∀ q ∈ k189, decode cX15_selector q.1 = .ok q.2 := by decide +kernel
theorem X189_ok : CodeOK (Mof mE189) X189 := ⟨code_1 k189_d (by decide +kernel), rfl, fun h => absurd h (by decide), Or.inl ⟨rfl, rfl⟩, thr_0 (by decide +kernel)⟩
def k190 : Code1 := [(0, .aload_n 0, 1), (1, .dup, 1), (2, .getfield 79, 3), (5, .iconst 1, 1), (6, .iadd, 1), (7, .putfield 79, 3), (10, .iload_n 1, 1), (11, .ifCond .eq 17, 3), (14, .aload_n 0, 1), (15, .iconst 1, 1), (16, .invokevirtual 313, 3), (19, .istore_n 2, 1), (20, .aload_n 0, 1), (21, .bipush 93, 2), (23, .invokevirtual 119, 3), (26, .iload_n 2, 1), (27, .ireturn, 1), (28, .aload_n 0, 1), (29, .getfield 79, 3), (32, .istore_n 2, 1), (33, .aload_n 0, 1), (34, .invokevirtual 230, 3), (37, .aload_n 0, 1), (38, .getfield 304, 3), (41, .ifCond .eq 15, 3), (44, .aload_n 0, 1), (45, .getfield 79, 3), (48, .iload_n 2, 1), (49, .if_icmp .ne 7, 3), (52, .iconst 1, 1), (53, .goto 4, 3), (56, .iconst 0, 1), (57, .istore_n 3, 1), (58, .aload_n 0, 1), (59, .iconst 0, 1), (60, .invokevirtual 313, 3), (63, .istore 4, 2), (65, .iload_n 3, 1), (66, .ifCond .eq 44, 3), (69, .aload_n 0, 1), (70, .getfield 48, 3), (73, .getfield 253, 3), (76, .iload 4, 2), (78, .iaload, 1), (79, .iconst 1, 1), (80, .if_icmp .eq 17, 3), (83, .aload_n 0, 1), (84, .getfield 48, 3), (87, .getfield 253, 3), (90, .iload 4, 2), (92, .iaload, 1), (93, .iconst 3, 1), (94, .if_icmp .ne 16, 3), (97, .aload_n 0, 1), (98, .bipush 93, 2), (100, .invokevirtual 93, 3), (103, .ifCond .eq 7, 3), (106, .iconst 1, 1), (107, .goto 4, 3), (110, .iconst 0, 1), (111, .istore_n 3, 1), (112, .iload 4, 2), (114, .istore 5, 2), (116, .aload_n 0, 1), (117, .invokevirtual 230, 3), (120, .aload_n 0, 1), (121, .bipush 44, 2), (123, .invokevirtual 93, 3), (126, .ifCond .eq 51, 3), (129, .aload_n 0, 1), (130, .dup, 1), (131, .getfield 79, 3), (134, .iconst 1, 1), (135, .iadd, 1), (136, .putfield 79, 3), (139, .aload_n 0, 1), (140, .invokevirtual 230, 3), (143, .aload_n 0, 1), (144, .getfield 48, 3), (147, .getfield 260, 3), (150, .iload 5, 2), (152, .aload_n 0, 1), (153, .iconst 0, 1), (154, .invokevirtual 313, 3), (157, .iastore, 1), (158, .aload_n 0, 1), (159, .getfield 48, 3), (162, .getfield 260, 3), (165, .iload 5, 2), (167, .iaload, 1), (168, .istore 5, 2), (170, .aload_n 0, 1), (171, .invokevirtual 230, 3), (174, .goto (-54), 3), (177, .aload_n 0, 1), (178, .bipush 93, 2), (180, .invokevirtual 119, 3), (183, .aload_n 0, 1), (184, .iload_n 3, 1), (185, .putfield 304, 3), (188, .iload 4, 2), (190, .ireturn, 1)]
def X190 : MT := (k190, pl15, (some FieldType.int), false, [])
theorem k190_d : ∀ q ∈ k190, decode cX15_bracketed q.1 = .ok q.2 := by decide +kernel
theorem X190_ok : CodeOK (Mof mE190) X190 := ⟨code_1 k190_d (by decide +kernel), rfl, fun h => absurd h (by decide), Or.inl ⟨rfl, rfl⟩, thr_0 (by decide +kernel)⟩
def k191 : Code1 := [(0, .aload_n 0, 1), (1, .aload_n 0, 1), (2, .invokevirtual 86, 3), (5, .invokevirtual 317, 3), (8, .ifCond .ne 8, 3), (11, .aload_n 0, 1), (12, .invokevirtual 97, 3), (15, .athrow, 1), (16, .aload_n 0, 1), (17, .getfield 105, 3), (20, .istore_n 1, 1), (21, .aload_n 0, 1), (22, .aload_n 0, 1), (23, .invokevirtual 86, 3), (26, .invokevirtual 317, 3), (29, .ifCond .ne 13, 3), (32, .aload_n 0, 1), (33, .invokevirtual 86, 3), (36, .invokestatic 108, 3), (39, .ifCond .eq 14, 3), (42, .aload_n 0, 1), (43, .aload_n 0, 1), (44, .invokevirtual 133, 3), (47, .invokevirtual 130, 3), (50, .goto (-29), 3), (53, .aload_n 0, 1), (54, .iload_n 1, 1), (55, .invokevirtual 296, 3), (58, .ireturn, 1)]
def X191 : MT := (k191, pl15, (some FieldType.int), false, [])
theorem k191_d : ∀ q ∈ k191, decode cX15_member q.1 = .ok q.2 := by decide +kernel
theorem X191_ok : CodeOK (Mof mE191) X191 := ⟨code_1 k191_d (by decide +kernel), rfl, fun h => absurd h (by decide), Or.inl ⟨rfl, rfl⟩, thr_0 (by decide +kernel)⟩
def k192 : Code1 := [(0, .iconst (-1), 1), (1, .istore_n 3, 1), (2, .iconst (-1), 1), (3, .istore 4, 2), (5, .aload_n 0, 1), (6, .iconst 1, 1), (7, .putfield 304, 3), (10, .iconst 1, 1), (11, .istore 5, 2), (13, .aload_n 0, 1), (14, .getfield 48, 3), (17, .iconst 0, 1), (18, .putfield 320, 3), (21, .iconst 0, 1), (22, .istore 6, 2), (24, .iconst 1, 1), (25, .istore 7, 2), (27, .iload 7, 2), (29, .ifCond .eq 310, 3), (32, .aload_n 0, 1), (33, .getfield 79, 3), (36, .istore 8, 2), (38, .aload_n 0, 1), (39, .invokevirtual 230, 3), (42, .aload_n 0, 1), (43, .bipush 91, 2), (45, .invokevirtual 93, 3), (48, .ifCond .ne 42, 3), (51, .aload_n 0, 1), (52, .bipush 46, 2), (54, .invokevirtual 93, 3), (57, .ifCond .ne 33, 3), (60, .iload_n 2, 1), (61, .ifCond .eq 17, 3), (64, .aload_n 0, 1), (65, .getfield 79, 3), (68, .iload 8, 2), (70, .if_icmp .le 8, 3), (73, .aload_n 0, 1), (74, .invokevirtual 97, 3), (77, .athrow, 1), (78, .aload_n 0, 1), (79, .iload 8, 2), (81, .putfield 79, 3), (84, .iconst 0, 1), (85, .istore 7, 2), (87, .goto (-60), 3), (90, .aload_n 0, 1), (91, .iconst 0, 1), (92, .invokevirtual 279, 3), (95, .istore 9, 2), (97, .aload_n 0, 1), (98, .iconst 1, 1), (99, .putfield 304, 3), (102, .aload_n 0, 1), (103, .bipush 91, 2), (105, .invokevirtual 93, 3), (108, .ifCond .eq 21, 3), (111, .aload_n 0, 1), (112, .getfield 48, 3), (115, .getfield 254, 3), (118, .iload 9, 2), (120, .aload_n 0, 1), (121, .iload_n 1, 1), (122, .invokevirtual 323, 3), (125, .iastore, 1), (126, .goto 148, 3), (129, .aload_n 0, 1), (130, .dup, 1), (131, .getfield 79, 3), (134, .iconst 1, 1), (135, .iadd, 1), (136, .putfield 79, 3), (139, .aload_n 0, 1), (140, .bipush 46, 2), (142, .invokevirtual 93, 3), (145, .ifCond .eq 28, 3), (148, .iload_n 1, 1), (149, .ifCond .ne 24, 3), (152, .aload_n 0, 1), (153, .dup, 1), (154, .getfield 79, 3), (157, .iconst 1, 1), (158, .iadd, 1), (159, .putfield 79, 3), (162, .aload_n 0, 1), (163, .getfield 48, 3), (166, .getfield 261, 3), (169, .iload 9, 2), (171, .iconst 1, 1), (172, .iastore, 1), (173, .aload_n 0, 1), (174, .bipush 42, 2), (176, .invokevirtual 93, 3), (179, .ifCond .eq 40, 3), (182, .iload_n 1, 1), (183, .ifCond .ne 36, 3), (186, .aload_n 0, 1), (187, .dup, 1), (188, .getfield 79, 3), (191, .iconst 1, 1), (192, .iadd, 1), (193, .putfield 79, 3), (196, .aload_n 0, 1), (197, .getfield 48, 3), (200, .getfield 254, 3), (203, .iload 9, 2), (205, .aload_n 0, 1), (206, .iconst 2, 1), (207, .invokevirtual 279, 3), (210, .iastore, 1), (211, .aload_n 0, 1), (212, .iconst 0, 1), (213, .putfield 304, 3), (216, .goto 58, 3), (219, .aload_n 0, 1), (220, .getfield 48, 3), (223, .getfield 261, 3), (226, .iload 9, 2), (228, .iaload, 1), (229, .iconst 1, 1), (230, .if_icmp .ne 30, 3), (233, .aload_n 0, 1), (234, .bipush 91, 2), (236, .invokevirtual 93, 3), (239, .ifCond .eq 21, 3), (242, .aload_n 0, 1), (243, .getfield 48, 3), (246, .getfield 254, 3), (249, .iload 9, 2), (251, .aload_n 0, 1), (252, .iconst 0, 1), (253, .invokevirtual 323, 3), (256, .iastore, 1), (257, .goto 17, 3), (260, .aload_n 0, 1), (261, .getfield 48, 3), (264, .getfield 254, 3), (267, .iload 9, 2), (269, .aload_n 0, 1), (270, .invokevirtual 326, 3), (273, .iastore, 1), (274, .iload 5, 2), (276, .ifCond .eq 27, 3), (279, .aload_n 0, 1), (280, .getfield 304, 3), (283, .ifCond .eq 20, 3), (286, .aload_n 0, 1), (287, .getfield 48, 3), (290, .getfield 261, 3), (293, .iload 9, 2), (295, .iaload, 1), (296, .ifCond .ne 7, 3), (299, .iconst 1, 1), (300, .goto 4, 3), (303, .iconst 0, 1), (304, .istore 5, 2), (306, .iload_n 3, 1), (307, .iconst (-1), 1), (308, .if_icmp .ne 9, 3), (311, .iload 9, 2), (313, .istore_n 3, 1), (314, .goto 15, 3), (317, .aload_n 0, 1), (318, .getfield 48, 3), (321, .getfield 260, 3), (324, .iload 4, 2), (326, .iload 9, 2), (328, .iastore, 1), (329, .iload 9, 2), (331, .istore 4, 2), (333, .iinc 6 1, 3), (336, .goto (-309), 3), (339, .aload_n 0, 1), (340, .iload 5, 2), (342, .putfield 304, 3), (345, .aload_n 0, 1), (346, .getfield 48, 3), (349, .iload 6, 2), (351, .putfield 320, 3), (354, .iload_n 3, 1), (355, .ireturn, 1)]
def X192 : MT := (k192, pl15, (some FieldType.int), false, [])
theorem k192_d : ∀ q ∈ k192, decode cX15_segments q.1 = .ok q.2 := by decide +kernel
theorem X192_ok : CodeOK (Mof mE192) X192 := ⟨code_1 k192_d (by decide +kernel), rfl, fun h => absurd h (by decide), Or.inl ⟨rfl, rfl⟩, thr_0 (by decide +kernel)⟩
def k193 : Code1 := [(0, .aload_n 0, 1), (1, .bipush 25, 2), (3, .invokevirtual 279, 3), (6, .istore_n 2, 1), (7, .aload_n 0, 1), (8, .getfield 48, 3), (11, .getfield 261, 3), (14, .iload_n 2, 1), (15, .aload_n 0, 1), (16, .bipush 64, 2), (18, .invokevirtual 93, 3), (21, .ifCond .eq 7, 3), (24, .iconst 1, 1), (25, .goto 4, 3), (28, .iconst 0, 1), (29, .iastore, 1), (30, .aload_n 0, 1), (31, .dup, 1), (32, .getfield 79, 3), (35, .iconst 1, 1), (36, .iadd, 1), (37, .putfield 79, 3), (40, .aload_n 0, 1), (41, .iload_n 1, 1), (42, .iconst 0, 1), (43, .invokevirtual 329, 3), (46, .istore_n 3, 1), (47, .aload_n 0, 1), (48, .getfield 48, 3), (51, .getfield 254, 3), (54, .iload_n 2, 1), (55, .iload_n 3, 1), (56, .iastore, 1), (57, .aload_n 0, 1), (58, .getfield 48, 3), (61, .getfield 257, 3), (64, .iload_n 2, 1), (65, .aload_n 0, 1), (66, .getfield 304, 3), (69, .ifCond .eq 7, 3), (72, .iconst 1, 1), (73, .goto 4, 3), (76, .iconst 0, 1), (77, .iastore, 1), (78, .iload_n 2, 1), (79, .ireturn, 1)]
def X193 : MT := (k193, pl15, (some FieldType.int), false, [])
theorem k193_d : ∀ q ∈ k193, decode cX15_path q.1 = .ok q.2 := by decide +kernel
theorem X193_ok : CodeOK (Mof mE193) X193 := ⟨code_1 k193_d (by decide +kernel), rfl, fun h => absurd h (by decide), Or.inl ⟨rfl, rfl⟩, thr_0 (by decide +kernel)⟩
def k194 : Code1 := [(0, .aload_n 0, 1), (1, .bipush 64, 2), (3, .invokevirtual 93, 3), (6, .ifCond .ne 12, 3), (9, .aload_n 0, 1), (10, .bipush 36, 2), (12, .invokevirtual 93, 3), (15, .ifCond .eq 7, 3), (18, .iconst 1, 1), (19, .goto 4, 3), (22, .iconst 0, 1), (23, .ireturn, 1)]
def X194 : MT := (k194, pl15, (some FieldType.boolean), false, [])
theorem k194_d : ∀ q ∈ k194, decode cX15_isPath q.1 = .ok q.2 := by decide +kernel
theorem X194_ok : CodeOK (Mof mE194) X194 := ⟨code_1 k194_d (by decide +kernel), rfl, fun h => absurd h (by decide), Or.inl ⟨rfl, rfl⟩, thr_0 (by decide +kernel)⟩
def k195 : Code1 := [(0, .aload_n 0, 1), (1, .bipush 34, 2), (3, .invokevirtual 93, 3), (6, .ifCond .ne 12, 3), (9, .aload_n 0, 1), (10, .bipush 39, 2), (12, .invokevirtual 93, 3), (15, .ifCond .eq 48, 3), (18, .aload_n 0, 1), (19, .bipush 21, 2), (21, .invokevirtual 279, 3), (24, .istore_n 1, 1), (25, .aload_n 0, 1), (26, .getfield 48, 3), (29, .getfield 254, 3), (32, .iload_n 1, 1), (33, .aload_n 0, 1), (34, .invokevirtual 216, 3), (37, .iastore, 1), (38, .aload_n 0, 1), (39, .getfield 48, 3), (42, .getfield 257, 3), (45, .iload_n 1, 1), (46, .aload_n 0, 1), (47, .getfield 105, 3), (50, .aload_n 0, 1), (51, .getfield 48, 3), (54, .getfield 254, 3), (57, .iload_n 1, 1), (58, .iaload, 1), (59, .isub, 1), (60, .iastore, 1), (61, .iload_n 1, 1), (62, .ireturn, 1), (63, .aload_n 0, 1), (64, .bipush 20, 2), (66, .invokevirtual 279, 3), (69, .istore_n 1, 1), (70, .aload_n 0, 1), (71, .getfield 79, 3), (74, .istore_n 2, 1), (75, .aload_n 0, 1), (76, .iconst 1, 1), (77, .invokevirtual 226, 3), (80, .aload_n 0, 1), (81, .getfield 136, 3), (84, .ifCond .eq 9, 3), (87, .aload_n 0, 1), (88, .iconst 3, 1), (89, .iload_n 2, 1), (90, .invokevirtual 276, 3), (93, .aload_n 0, 1), (94, .getfield 48, 3), (97, .getfield 298, 3), (100, .iload_n 1, 1), (101, .aload_n 0, 1), (102, .getfield 146, 3), (105, .lastore, 1), (106, .iload_n 1, 1), (107, .ireturn, 1)]
def X195 : MT := (k195, pl15, (some FieldType.int), false, [])
theorem k195_d : ∀ q ∈ k195, decode cX15_literal q.1 = .ok q.2 := by decide +kernel
theorem X195_ok : CodeOK (Mof mE195) X195 := ⟨code_1 k195_d (by decide +kernel), rfl, fun h => absurd h (by decide), Or.inl ⟨rfl, rfl⟩, thr_0 (by decide +kernel)⟩
def k196 : Code1 := [(0, .aload_n 0, 1), (1, .bipush 34, 2), (3, .invokevirtual 93, 3), (6, .ifCond .ne 19, 3), (9, .aload_n 0, 1), (10, .bipush 39, 2), (12, .invokevirtual 93, 3), (15, .ifCond .ne 10, 3), (18, .aload_n 0, 1), (19, .invokevirtual 282, 3), (22, .ifCond .eq 7, 3), (25, .iconst 1, 1), (26, .goto 4, 3), (29, .iconst 0, 1), (30, .ireturn, 1)]
def X196 : MT := (k196, pl15, (some FieldType.boolean), false, [])
theorem k196_d : ∀ q ∈ k196, decode cX15_isLiteral q.1 = .ok q.2 := by decide +kernel
theorem X196_ok : CodeOK (Mof mE196) X196 := ⟨code_1 k196_d (by decide +kernel), rfl, fun h => absurd h (by decide), Or.inl ⟨rfl, rfl⟩, thr_0 (by decide +kernel)⟩
def k197 : Code1 := [(0, .aload_n 0, 1), (1, .getfield 79, 3), (4, .iload_n 1, 1), (5, .isub, 1), (6, .aload_n 2, 1), (7, .invokevirtual 150, 3), (10, .if_icmp .ne 7, 3), (13, .iconst 1, 1), (14, .goto 4, 3), (17, .iconst 0, 1), (18, .istore_n 3, 1), (19, .iconst 0, 1), (20, .istore 4, 2), (22, .iload_n 3, 1), (23, .ifCond .eq 41, 3), (26, .iload 4, 2), (28, .aload_n 2, 1), (29, .invokevirtual 150, 3), (32, .if_icmp .ge 32, 3), (35, .aload_n 0, 1), (36, .iload_n 1, 1), (37, .iload 4, 2), (39, .iadd, 1), (40, .invokevirtual 82, 3), (43, .aload_n 2, 1), (44, .iload 4, 2), (46, .invokevirtual 154, 3), (49, .if_icmp .ne 7, 3), (52, .iconst 1, 1), (53, .goto 4, 3), (56, .iconst 0, 1), (57, .istore_n 3, 1), (58, .iinc 4 1, 3), (61, .goto (-39), 3), (64, .iload_n 3, 1), (65, .ireturn, 1)]
def X197 : MT := (k197, pl15, (some FieldType.boolean), false, [])
theorem k197_d : ∀ q ∈ k197, decode cX15_isWord q.1 = .ok q.2 := by decide +kernel
theorem X197_ok : CodeOK (Mof mE197) X197 := ⟨code_1 k197_d (by decide +kernel), rfl, fun h => absurd h (by decide), Or.inl ⟨rfl, rfl⟩, thr_0 (by decide +kernel)⟩
def k198 : Code1 := [(0, .aload_n 0, 1), (1, .getfield 79, 3), (4, .istore_n 1, 1), (5, .aload_n 0, 1), (6, .invokevirtual 86, 3), (9, .invokestatic 273, 3), (12, .ifCond .ne 22, 3), (15, .aload_n 0, 1), (16, .invokevirtual 86, 3), (19, .invokestatic 108, 3), (22, .ifCond .ne 12, 3), (25, .aload_n 0, 1), (26, .bipush 95, 2), (28, .invokevirtual 93, 3), (31, .ifCond .eq 16, 3), (34, .aload_n 0, 1), (35, .dup, 1), (36, .getfield 79, 3), (39, .iconst 1, 1), (40, .iadd, 1), (41, .putfield 79, 3), (44, .goto (-39), 3), (47, .aload_n 0, 1), (48, .bipush 40, 2), (50, .invokevirtual 93, 3), (53, .ifCond .eq 9, 3), (56, .aload_n 0, 1), (57, .iload_n 1, 1), (58, .invokevirtual 332, 3), (61, .ireturn, 1), (62, .aload_n 0, 1), (63, .iload_n 1, 1), (64, .ldc 214, 2), (66, .invokevirtual 335, 3), (69, .ifCond .eq 10, 3), (72, .aload_n 0, 1), (73, .bipush 22, 2), (75, .invokevirtual 279, 3), (78, .ireturn, 1), (79, .aload_n 0, 1), (80, .iload_n 1, 1), (81, .ldc 212, 2), (83, .invokevirtual 335, 3), (86, .ifCond .eq 10, 3), (89, .aload_n 0, 1), (90, .bipush 23, 2), (92, .invokevirtual 279, 3), (95, .ireturn, 1), (96, .aload_n 0, 1), (97, .iload_n 1, 1), (98, .ldc 204, 2), (100, .invokevirtual 335, 3), (103, .ifCond .eq 10, 3), (106, .aload_n 0, 1), (107, .bipush 24, 2), (109, .invokevirtual 279, 3), (112, .ireturn, 1), (113, .aload_n 0, 1), (114, .invokevirtual 97, 3), (117, .athrow, 1)]
def X198 : MT := (k198, pl15, (some FieldType.int), false, [])
theorem k198_d : ∀ q ∈ k198, decode cX15_worded q.1 = .ok q.2 := by decide +kernel
theorem X198_ok : CodeOK (Mof mE198) X198 := ⟨code_1 k198_d (by decide +kernel), rfl, fun h => absurd h (by decide), Or.inl ⟨rfl, rfl⟩, thr_0 (by decide +kernel)⟩
def k199 : Code1 := [(0, .aload_n 0, 1), (1, .bipush 61, 2), (3, .invokevirtual 93, 3), (6, .ifCond .ne 30, 3), (9, .aload_n 0, 1), (10, .bipush 33, 2), (12, .invokevirtual 93, 3), (15, .ifCond .ne 21, 3), (18, .aload_n 0, 1), (19, .bipush 60, 2), (21, .invokevirtual 93, 3), (24, .ifCond .ne 12, 3), (27, .aload_n 0, 1), (28, .bipush 62, 2), (30, .invokevirtual 93, 3), (33, .ifCond .eq 7, 3), (36, .iconst 1, 1), (37, .goto 4, 3), (40, .iconst 0, 1), (41, .ireturn, 1)]
def X199 : MT := (k199, pl15, (some FieldType.boolean), false, [])
theorem k199_d : ∀ q ∈ k199, decode cX15_isOrdered q.1 = .ok q.2 := by decide +kernel
theorem X199_ok : CodeOK (Mof mE199) X199 := ⟨code_1 k199_d (by decide +kernel), rfl, fun h => absurd h (by decide), Or.inl ⟨rfl, rfl⟩, thr_0 (by decide +kernel)⟩
def k200 : Code1 := [(0, .aload_n 0, 1), (1, .invokevirtual 86, 3), (4, .istore_n 1, 1), (5, .aload_n 0, 1), (6, .dup, 1), (7, .getfield 79, 3), (10, .iconst 1, 1), (11, .iadd, 1), (12, .putfield 79, 3), (15, .iload_n 1, 1), (16, .bipush 60, 2), (18, .if_icmp .eq 9, 3), (21, .iload_n 1, 1), (22, .bipush 62, 2), (24, .if_icmp .ne 53, 3), (27, .aload_n 0, 1), (28, .bipush 61, 2), (30, .invokevirtual 93, 3), (33, .istore_n 2, 1), (34, .iload_n 2, 1), (35, .ifCond .eq 13, 3), (38, .aload_n 0, 1), (39, .dup, 1), (40, .getfield 79, 3), (43, .iconst 1, 1), (44, .iadd, 1), (45, .putfield 79, 3), (48, .iload_n 1, 1), (49, .bipush 60, 2), (51, .if_icmp .ne 15, 3), (54, .iload_n 2, 1), (55, .ifCond .eq 7, 3), (58, .iconst 4, 1), (59, .goto 17, 3), (62, .iconst 3, 1), (63, .goto 13, 3), (66, .iload_n 2, 1), (67, .ifCond .eq 8, 3), (70, .bipush 6, 2), (72, .goto 4, 3), (75, .iconst 5, 1), (76, .ireturn, 1), (77, .aload_n 0, 1), (78, .bipush 61, 2), (80, .invokevirtual 119, 3), (83, .iload_n 1, 1), (84, .bipush 61, 2), (86, .if_icmp .ne 7, 3), (89, .iconst 1, 1), (90, .goto 4, 3), (93, .iconst 2, 1), (94, .ireturn, 1)]
def X200 : MT := (k200, pl15, (some FieldType.int), false, [])
theorem k200_d : ∀ q ∈ k200, decode cX15_sign q.1 = .ok q.2 := by decide +kernel
theorem X200_ok : CodeOK (Mof mE200) X200 := ⟨code_1 k200_d (by decide +kernel), rfl, fun h => absurd h (by decide), Or.inl ⟨rfl, rfl⟩, thr_0 (by decide +kernel)⟩
def k201 : Code1 := [(0, .aload_n 0, 1), (1, .invokevirtual 339, 3), (4, .ifCond .eq 9, 3), (7, .aload_n 0, 1), (8, .iconst 1, 1), (9, .invokevirtual 342, 3), (12, .ireturn, 1), (13, .aload_n 0, 1), (14, .invokevirtual 345, 3), (17, .ifCond .eq 8, 3), (20, .aload_n 0, 1), (21, .invokevirtual 348, 3), (24, .ireturn, 1), (25, .aload_n 0, 1), (26, .invokevirtual 86, 3), (29, .invokestatic 273, 3), (32, .ifCond .eq 8, 3), (35, .aload_n 0, 1), (36, .invokevirtual 351, 3), (39, .ireturn, 1), (40, .aload_n 0, 1), (41, .invokevirtual 97, 3), (44, .athrow, 1)]
def X201 : MT := (k201, pl15, (some FieldType.int), false, [])
theorem k201_d : ∀ q ∈ k201, decode cX15_comparable q.1 = .ok q.2 := by decide +kernel
theorem X201_ok : CodeOK (Mof mE201) X201 := ⟨code_1 k201_d (by decide +kernel), rfl, fun h => absurd h (by decide), Or.inl ⟨rfl, rfl⟩, thr_0 (by decide +kernel)⟩
def k202 : Code1 := [(0, .aload_n 0, 1), (1, .getfield 48, 3), (4, .getfield 253, 3), (7, .iload_n 1, 1), (8, .iaload, 1), (9, .bipush 25, 2), (11, .if_icmp .ne 20, 3), (14, .aload_n 0, 1), (15, .getfield 48, 3), (18, .getfield 257, 3), (21, .iload_n 1, 1), (22, .iaload, 1), (23, .ifCond .ne 8, 3), (26, .aload_n 0, 1), (27, .invokevirtual 97, 3), (30, .athrow, 1), (31, .aload_n 0, 1), (32, .bipush 13, 2), (34, .invokevirtual 279, 3), (37, .istore_n 2, 1), (38, .aload_n 0, 1), (39, .getfield 48, 3), (42, .getfield 261, 3), (45, .iload_n 2, 1), (46, .aload_n 0, 1), (47, .invokevirtual 354, 3), (50, .iastore, 1), (51, .aload_n 0, 1), (52, .getfield 48, 3), (55, .getfield 254, 3), (58, .iload_n 2, 1), (59, .iload_n 1, 1), (60, .iastore, 1), (61, .aload_n 0, 1), (62, .invokevirtual 230, 3), (65, .aload_n 0, 1), (66, .getfield 48, 3), (69, .getfield 257, 3), (72, .iload_n 2, 1), (73, .aload_n 0, 1), (74, .invokevirtual 357, 3), (77, .iastore, 1), (78, .iload_n 2, 1), (79, .ireturn, 1)]
def X202 : MT := (k202, pl15, (some FieldType.int), false, [])
theorem k202_d : ∀ q ∈ k202, decode cX15_compared q.1 = .ok q.2 := by decide +kernel
theorem X202_ok : CodeOK (Mof mE202) X202 := ⟨code_1 k202_d (by decide +kernel), rfl, fun h => absurd h (by decide), Or.inl ⟨rfl, rfl⟩, thr_0 (by decide +kernel)⟩
def k203 : Code1 := [(0, .aload_n 0, 1), (1, .getfield 48, 3), (4, .getfield 253, 3), (7, .iload_n 1, 1), (8, .iaload, 1), (9, .bipush 26, 2), (11, .if_icmp .ne 9, 3), (14, .aload_n 0, 1), (15, .iconst 2, 1), (16, .iload_n 2, 1), (17, .invokevirtual 276, 3), (20, .aload_n 0, 1), (21, .bipush 14, 2), (23, .invokevirtual 279, 3), (26, .istore_n 3, 1), (27, .aload_n 0, 1), (28, .getfield 48, 3), (31, .getfield 254, 3), (34, .iload_n 3, 1), (35, .iload_n 1, 1), (36, .iastore, 1), (37, .iload_n 3, 1), (38, .ireturn, 1)]
def X203 : MT := (k203, pl15, (some FieldType.int), false, [])
theorem k203_d : ∀ q ∈ k203, decode cX15_tested q.1 = .ok q.2 := by decide +kernel
theorem X203_ok : CodeOK (Mof mE203) X203 := ⟨code_1 k203_d (by decide +kernel), rfl, fun h => absurd h (by decide), Or.inl ⟨rfl, rfl⟩, thr_0 (by decide +kernel)⟩
def k204 : Code1 := [(0, .aload_n 0, 1), (1, .getfield 79, 3), (4, .istore_n 3, 1), (5, .aload_n 0, 1), (6, .invokevirtual 230, 3), (9, .aload_n 0, 1), (10, .invokevirtual 360, 3), (13, .ifCond .eq 9, 3), (16, .aload_n 0, 1), (17, .iload_n 1, 1), (18, .invokevirtual 363, 3), (21, .ireturn, 1), (22, .aload_n 0, 1), (23, .getfield 48, 3), (26, .getfield 253, 3), (29, .iload_n 1, 1), (30, .iaload, 1), (31, .bipush 25, 2), (33, .if_icmp .eq 22, 3), (36, .aload_n 0, 1), (37, .getfield 48, 3), (40, .getfield 253, 3), (43, .iload_n 1, 1), (44, .iaload, 1), (45, .bipush 26, 2), (47, .if_icmp .eq 8, 3), (50, .aload_n 0, 1), (51, .invokevirtual 97, 3), (54, .athrow, 1), (55, .aload_n 0, 1), (56, .iload_n 3, 1), (57, .putfield 79, 3), (60, .aload_n 0, 1), (61, .iload_n 1, 1), (62, .iload_n 2, 1), (63, .invokevirtual 366, 3), (66, .ireturn, 1)]
def X204 : MT := (k204, pl15, (some FieldType.int), false, [])
theorem k204_d : ∀ q ∈ k204, decode cX15_basicOf q.1 = .ok q.2 := by decide +kernel
theorem X204_ok : CodeOK (Mof mE204) X204 := ⟨code_1 k204_d (by decide +kernel), rfl, fun h => absurd h (by decide), Or.inl ⟨rfl, rfl⟩, thr_0 (by decide +kernel)⟩
def k205 : Code1 := [(0, .aload_n 0, 1), (1, .invokevirtual 307, 3), (4, .aload_n 0, 1), (5, .dup, 1), (6, .getfield 79, 3), (9, .iconst 1, 1), (10, .iadd, 1), (11, .putfield 79, 3), (14, .aload_n 0, 1), (15, .invokevirtual 230, 3), (18, .aload_n 0, 1), (19, .iconst (-1), 1), (20, .invokevirtual 310, 3), (23, .istore_n 1, 1), (24, .aload_n 0, 1), (25, .invokevirtual 230, 3), (28, .aload_n 0, 1), (29, .bipush 41, 2), (31, .invokevirtual 119, 3), (34, .aload_n 0, 1), (35, .dup, 1), (36, .getfield 270, 3), (39, .iconst 1, 1), (40, .isub, 1), (41, .putfield 270, 3), (44, .iload_n 1, 1), (45, .ireturn, 1)]
def X205 : MT := (k205, pl15, (some FieldType.int), false, [])
theorem k205_d : ∀ q ∈ k205, decode cX15_bracket q.1 = .ok q.2 := by decide +kernel
theorem X205_ok : CodeOK (Mof mE205) X205 := ⟨code_1 k205_d (by decide +kernel), rfl, fun h => absurd h (by decide), Or.inl ⟨rfl, rfl⟩, thr_0 (by decide +kernel)⟩
def k206 : Code1 := [(0, .aload_n 0, 1), (1, .getfield 79, 3), (4, .istore_n 1, 1), (5, .aload_n 0, 1), (6, .bipush 33, 2), (8, .invokevirtual 93, 3), (11, .ifCond .eq 117, 3), (14, .aload_n 0, 1), (15, .dup, 1), (16, .getfield 79, 3), (19, .iconst 1, 1), (20, .iadd, 1), (21, .putfield 79, 3), (24, .aload_n 0, 1), (25, .invokevirtual 230, 3), (28, .aload_n 0, 1), (29, .bipush 12, 2), (31, .invokevirtual 279, 3), (34, .istore_n 2, 1), (35, .aload_n 0, 1), (36, .getfield 79, 3), (39, .istore_n 1, 1), (40, .aload_n 0, 1), (41, .bipush 40, 2), (43, .invokevirtual 93, 3), (46, .ifCond .eq 19, 3), (49, .aload_n 0, 1), (50, .getfield 48, 3), (53, .getfield 254, 3), (56, .iload_n 2, 1), (57, .aload_n 0, 1), (58, .invokevirtual 369, 3), (61, .iastore, 1), (62, .goto 64, 3), (65, .aload_n 0, 1), (66, .invokevirtual 339, 3), (69, .ifCond .eq 25, 3), (72, .aload_n 0, 1), (73, .getfield 48, 3), (76, .getfield 254, 3), (79, .iload_n 2, 1), (80, .aload_n 0, 1), (81, .aload_n 0, 1), (82, .iconst 0, 1), (83, .invokevirtual 342, 3), (86, .iload_n 1, 1), (87, .invokevirtual 366, 3), (90, .iastore, 1), (91, .goto 35, 3), (94, .aload_n 0, 1), (95, .invokevirtual 86, 3), (98, .invokestatic 273, 3), (101, .ifCond .eq 20, 3), (104, .aload_n 0, 1), (105, .getfield 48, 3), (108, .getfield 254, 3), (111, .iload_n 2, 1), (112, .aload_n 0, 1), (113, .iload_n 1, 1), (114, .invokevirtual 372, 3), (117, .iastore, 1), (118, .goto 8, 3), (121, .aload_n 0, 1), (122, .invokevirtual 97, 3), (125, .athrow, 1), (126, .iload_n 2, 1), (127, .ireturn, 1), (128, .aload_n 0, 1), (129, .bipush 40, 2), (131, .invokevirtual 93, 3), (134, .ifCond .eq 8, 3), (137, .aload_n 0, 1), (138, .invokevirtual 369, 3), (141, .ireturn, 1), (142, .aload_n 0, 1), (143, .aload_n 0, 1), (144, .invokevirtual 375, 3), (147, .iload_n 1, 1), (148, .invokevirtual 378, 3), (151, .ireturn, 1)]
def X206 : MT := (k206, pl15, (some FieldType.int), false, [])
theorem k206_d : ∀ q ∈ k206, decode cX15_basic q.1 = .ok q.2 := by decide +kernel
theorem X206_ok : CodeOK (Mof mE206) X206 := ⟨code_1 k206_d (by decide +kernel), rfl, fun h => absurd h (by decide), Or.inl ⟨rfl, rfl⟩, thr_0 (by decide +kernel)⟩
def k207 : Code1 := [(0, .aload_n 0, 1), (1, .invokevirtual 86, 3), (4, .invokestatic 273, 3), (7, .ifCond .ne 22, 3), (10, .aload_n 0, 1), (11, .invokevirtual 86, 3), (14, .invokestatic 108, 3), (17, .ifCond .ne 12, 3), (20, .aload_n 0, 1), (21, .bipush 95, 2), (23, .invokevirtual 93, 3), (26, .ifCond .eq 16, 3), (29, .aload_n 0, 1), (30, .dup, 1), (31, .getfield 79, 3), (34, .iconst 1, 1), (35, .iadd, 1), (36, .putfield 79, 3), (39, .goto (-39), 3), (42, .aload_n 0, 1), (43, .bipush 40, 2), (45, .invokevirtual 93, 3), (48, .ifCond .ne 8, 3), (51, .aload_n 0, 1), (52, .invokevirtual 97, 3), (55, .athrow, 1), (56, .aload_n 0, 1), (57, .aload_n 0, 1), (58, .iload_n 1, 1), (59, .invokevirtual 332, 3), (62, .iload_n 1, 1), (63, .invokevirtual 366, 3), (66, .ireturn, 1)]
def X207 : MT := (k207, pl15, (some FieldType.int), false, [])
theorem k207_d : ∀ q ∈ k207, decode cX15_negated q.1 = .ok q.2 := by decide +kernel
theorem X207_ok : CodeOK (Mof mE207) X207 := ⟨code_1 k207_d (by decide +kernel), rfl, fun h => absurd h (by decide), Or.inl ⟨rfl, rfl⟩, thr_0 (by decide +kernel)⟩
def k208 : Code1 := [(0, .aload_n 0, 1), (1, .invokevirtual 339, 3), (4, .ifCond .eq 9, 3), (7, .aload_n 0, 1), (8, .iconst 0, 1), (9, .invokevirtual 342, 3), (12, .ireturn, 1), (13, .aload_n 0, 1), (14, .invokevirtual 345, 3), (17, .ifCond .eq 8, 3), (20, .aload_n 0, 1), (21, .invokevirtual 348, 3), (24, .ireturn, 1), (25, .aload_n 0, 1), (26, .invokevirtual 86, 3), (29, .invokestatic 273, 3), (32, .ifCond .eq 8, 3), (35, .aload_n 0, 1), (36, .invokevirtual 351, 3), (39, .ireturn, 1), (40, .aload_n 0, 1), (41, .invokevirtual 97, 3), (44, .athrow, 1)]
def X208 : MT := (k208, pl15, (some FieldType.int), false, [])
theorem k208_d : ∀ q ∈ k208, decode cX15_operand q.1 = .ok q.2 := by decide +kernel
theorem X208_ok : CodeOK (Mof mE208) X208 := ⟨code_1 k208_d (by decide +kernel), rfl, fun h => absurd h (by decide), Or.inl ⟨rfl, rfl⟩, thr_0 (by decide +kernel)⟩
def k209 : Code1 := [(0, .aload_n 0, 1), (1, .bipush 11, 2), (3, .invokevirtual 279, 3), (6, .istore_n 2, 1), (7, .iload_n 1, 1), (8, .iconst (-1), 1), (9, .if_icmp .ne 10, 3), (12, .aload_n 0, 1), (13, .invokevirtual 381, 3), (16, .goto 4, 3), (19, .iload_n 1, 1), (20, .istore_n 3, 1), (21, .aload_n 0, 1), (22, .getfield 48, 3), (25, .getfield 254, 3), (28, .iload_n 2, 1), (29, .iload_n 3, 1), (30, .iastore, 1), (31, .iconst 1, 1), (32, .istore 4, 2), (34, .iload 4, 2), (36, .ifCond .eq 81, 3), (39, .aload_n 0, 1), (40, .getfield 79, 3), (43, .istore 5, 2), (45, .aload_n 0, 1), (46, .invokevirtual 230, 3), (49, .aload_n 0, 1), (50, .bipush 38, 2), (52, .invokevirtual 93, 3), (55, .istore 4, 2), (57, .iload 4, 2), (59, .ifCond .ne 12, 3), (62, .aload_n 0, 1), (63, .iload 5, 2), (65, .putfield 79, 3), (68, .goto (-34), 3), (71, .aload_n 0, 1), (72, .dup, 1), (73, .getfield 79, 3), (76, .iconst 1, 1), (77, .iadd, 1), (78, .putfield 79, 3), (81, .aload_n 0, 1), (82, .bipush 38, 2), (84, .invokevirtual 119, 3), (87, .aload_n 0, 1), (88, .invokevirtual 230, 3), (91, .aload_n 0, 1), (92, .getfield 48, 3), (95, .getfield 260, 3), (98, .iload_n 3, 1), (99, .aload_n 0, 1), (100, .invokevirtual 381, 3), (103, .iastore, 1), (104, .aload_n 0, 1), (105, .getfield 48, 3), (108, .getfield 260, 3), (111, .iload_n 3, 1), (112, .iaload, 1), (113, .istore_n 3, 1), (114, .goto (-80), 3), (117, .iload_n 2, 1), (118, .ireturn, 1)]
def X209 : MT := (k209, pl15, (some FieldType.int), false, [])
theorem k209_d : ∀ q ∈ k209, decode cX15_all q.1 = .ok q.2 := by decide +kernel
theorem X209_ok : CodeOK (Mof mE209) X209 := ⟨code_1 k209_d (by decide +kernel), rfl, fun h => absurd h (by decide), Or.inl ⟨rfl, rfl⟩, thr_0 (by decide +kernel)⟩
def k210 : Code1 := [(0, .aload_n 0, 1), (1, .bipush 10, 2), (3, .invokevirtual 279, 3), (6, .istore_n 2, 1), (7, .aload_n 0, 1), (8, .iload_n 1, 1), (9, .invokevirtual 384, 3), (12, .istore_n 3, 1), (13, .aload_n 0, 1), (14, .getfield 48, 3), (17, .getfield 254, 3), (20, .iload_n 2, 1), (21, .iload_n 3, 1), (22, .iastore, 1), (23, .iconst 1, 1), (24, .istore 4, 2), (26, .iload 4, 2), (28, .ifCond .eq 82, 3), (31, .aload_n 0, 1), (32, .getfield 79, 3), (35, .istore 5, 2), (37, .aload_n 0, 1), (38, .invokevirtual 230, 3), (41, .aload_n 0, 1), (42, .bipush 124, 2), (44, .invokevirtual 93, 3), (47, .istore 4, 2), (49, .iload 4, 2), (51, .ifCond .ne 12, 3), (54, .aload_n 0, 1), (55, .iload 5, 2), (57, .putfield 79, 3), (60, .goto (-34), 3), (63, .aload_n 0, 1), (64, .dup, 1), (65, .getfield 79, 3), (68, .iconst 1, 1), (69, .iadd, 1), (70, .putfield 79, 3), (73, .aload_n 0, 1), (74, .bipush 124, 2), (76, .invokevirtual 119, 3), (79, .aload_n 0, 1), (80, .invokevirtual 230, 3), (83, .aload_n 0, 1), (84, .getfield 48, 3), (87, .getfield 260, 3), (90, .iload_n 3, 1), (91, .aload_n 0, 1), (92, .iconst (-1), 1), (93, .invokevirtual 384, 3), (96, .iastore, 1), (97, .aload_n 0, 1), (98, .getfield 48, 3), (101, .getfield 260, 3), (104, .iload_n 3, 1), (105, .iaload, 1), (106, .istore_n 3, 1), (107, .goto (-81), 3), (110, .aload_n 0, 1), (111, .invokevirtual 230, 3), (114, .iload_n 2, 1), (115, .ireturn, 1)]
def X210 : MT := (k210, pl15, (some FieldType.int), false, [])
theorem k210_d : ∀ q ∈ k210, decode cX15_any q.1 = .ok q.2 := by decide +kernel
theorem X210_ok : CodeOK (Mof mE210) X210 := ⟨code_1 k210_d (by decide +kernel), rfl, fun h => absurd h (by decide), Or.inl ⟨rfl, rfl⟩, thr_0 (by decide +kernel)⟩
def k211 : Code1 := [(0, .aload_n 0, 1), (1, .bipush 33, 2), (3, .invokevirtual 93, 3), (6, .ifCond .ne 12, 3), (9, .aload_n 0, 1), (10, .bipush 40, 2), (12, .invokevirtual 93, 3), (15, .ifCond .eq 16, 3), (18, .aload_n 0, 1), (19, .iconst (-1), 1), (20, .invokevirtual 310, 3), (23, .istore_n 1, 1), (24, .aload_n 0, 1), (25, .iconst 4, 1), (26, .putfield 387, 3), (29, .iload_n 1, 1), (30, .ireturn, 1), (31, .aload_n 0, 1), (32, .getfield 79, 3), (35, .istore_n 1, 1), (36, .aload_n 0, 1), (37, .invokevirtual 375, 3), (40, .istore_n 2, 1), (41, .aload_n 0, 1), (42, .invokevirtual 230, 3), (45, .aload_n 0, 1), (46, .invokevirtual 360, 3), (49, .ifCond .eq 20, 3), (52, .aload_n 0, 1), (53, .aload_n 0, 1), (54, .iload_n 2, 1), (55, .invokevirtual 363, 3), (58, .invokevirtual 310, 3), (61, .istore_n 3, 1), (62, .aload_n 0, 1), (63, .iconst 4, 1), (64, .putfield 387, 3), (67, .iload_n 3, 1), (68, .ireturn, 1), (69, .aload_n 0, 1), (70, .getfield 48, 3), (73, .getfield 253, 3), (76, .iload_n 2, 1), (77, .iaload, 1), (78, .bipush 25, 2), (80, .if_icmp .ne 7, 3), (83, .iconst 1, 1), (84, .goto 4, 3), (87, .iconst 0, 1), (88, .istore_n 3, 1), (89, .aload_n 0, 1), (90, .getfield 48, 3), (93, .getfield 253, 3), (96, .iload_n 2, 1), (97, .iaload, 1), (98, .bipush 26, 2), (100, .if_icmp .ne 7, 3), (103, .iconst 1, 1), (104, .goto 4, 3), (107, .iconst 0, 1), (108, .istore 4, 2), (110, .iload_n 3, 1), (111, .ifCond .ne 8, 3), (114, .iload 4, 2), (116, .ifCond .eq 41, 3), (119, .aload_n 0, 1), (120, .bipush 38, 2), (122, .invokevirtual 93, 3), (125, .ifCond .ne 12, 3), (128, .aload_n 0, 1), (129, .bipush 124, 2), (131, .invokevirtual 93, 3), (134, .ifCond .eq 23, 3), (137, .aload_n 0, 1), (138, .aload_n 0, 1), (139, .iload_n 2, 1), (140, .iload_n 1, 1), (141, .invokevirtual 366, 3), (144, .invokevirtual 310, 3), (147, .istore 5, 2), (149, .aload_n 0, 1), (150, .iconst 4, 1), (151, .putfield 387, 3), (154, .iload 5, 2), (156, .ireturn, 1), (157, .aload_n 0, 1), (158, .iload_n 3, 1), (159, .ifCond .eq 7, 3), (162, .iconst 2, 1), (163, .goto 13, 3), (166, .iload 4, 2), (168, .ifCond .eq 7, 3), (171, .iconst 3, 1), (172, .goto 4, 3), (175, .iconst 1, 1), (176, .putfield 387, 3), (179, .iload_n 2, 1), (180, .ireturn, 1)]
def X211 : MT := (k211, pl15, (some FieldType.int), false, [])
theorem k211_d : ∀ q ∈ k211, decode cX15_argument q.1 = .ok q.2 := by decide +kernel
theorem X211_ok : CodeOK (Mof mE211) X211 := ⟨code_1 k211_d (by decide +kernel), rfl, fun h => absurd h (by decide), Or.inl ⟨rfl, rfl⟩, thr_0 (by decide +kernel)⟩
def k212 : Code1 := [(0, .aload_n 0, 1), (1, .iload_n 1, 1), (2, .ldc_w 390, 3), (5, .invokevirtual 335, 3), (8, .ifCond .eq 7, 3), (11, .iconst 1, 1), (12, .goto 34, 3), (15, .aload_n 0, 1), (16, .iload_n 1, 1), (17, .ldc_w 391, 3), (20, .invokevirtual 335, 3), (23, .ifCond .eq 7, 3), (26, .iconst 2, 1), (27, .goto 19, 3), (30, .aload_n 0, 1), (31, .iload_n 1, 1), (32, .ldc_w 393, 3), (35, .invokevirtual 335, 3), (38, .ifCond .eq 7, 3), (41, .iconst 3, 1), (42, .goto 4, 3), (45, .iconst 0, 1), (46, .istore_n 2, 1), (47, .aload_n 0, 1), (48, .invokevirtual 307, 3), (51, .aload_n 0, 1), (52, .bipush 26, 2), (54, .invokevirtual 279, 3), (57, .istore_n 3, 1), (58, .aload_n 0, 1), (59, .getfield 48, 3), (62, .getfield 261, 3), (65, .iload_n 3, 1), (66, .iload_n 2, 1), (67, .iastore, 1), (68, .aload_n 0, 1), (69, .dup, 1), (70, .getfield 79, 3), (73, .iconst 1, 1), (74, .iadd, 1), (75, .putfield 79, 3), (78, .aload_n 0, 1), (79, .invokevirtual 230, 3), (82, .iconst 0, 1), (83, .istore 4, 2), (85, .iconst 0, 1), (86, .istore 5, 2), (88, .aload_n 0, 1), (89, .bipush 41, 2), (91, .invokevirtual 93, 3), (94, .ifCond .ne 132, 3), (97, .iconst 1, 1), (98, .istore 6, 2), (100, .iload 6, 2), (102, .ifCond .eq 124, 3), (105, .aload_n 0, 1), (106, .invokevirtual 394, 3), (109, .istore 7, 2), (111, .iload 4, 2), (113, .ifCond .ne 73, 3), (116, .aload_n 0, 1), (117, .getfield 48, 3), (120, .getfield 254, 3), (123, .iload_n 3, 1), (124, .iload 7, 2), (126, .iastore, 1), (127, .aload_n 0, 1), (128, .getfield 387, 3), (131, .iconst 2, 1), (132, .if_icmp .ne 7, 3), (135, .iconst 1, 1), (136, .goto 4, 3), (139, .iconst 0, 1), (140, .istore 8, 2), (142, .iload_n 2, 1), (143, .iconst 1, 1), (144, .if_icmp .ne 38, 3), (147, .aload_n 0, 1), (148, .getfield 387, 3), (151, .iconst 4, 1), (152, .if_icmp .eq 26, 3), (155, .iload 8, 2), (157, .ifCond .eq 17, 3), (160, .aload_n 0, 1), (161, .getfield 48, 3), (164, .getfield 257, 3), (167, .iload 7, 2), (169, .iaload, 1), (170, .iconst 1, 1), (171, .if_icmp .ne 7, 3), (174, .iconst 1, 1), (175, .goto 9, 3), (178, .iconst 0, 1), (179, .goto 5, 3), (182, .iload 8, 2), (184, .istore 5, 2), (186, .iinc 4 1, 3), (189, .aload_n 0, 1), (190, .invokevirtual 230, 3), (193, .aload_n 0, 1), (194, .bipush 44, 2), (196, .invokevirtual 93, 3), (199, .istore 6, 2), (201, .iload 6, 2), (203, .ifCond .ne 6, 3), (206, .goto (-106), 3), (209, .aload_n 0, 1), (210, .dup, 1), (211, .getfield 79, 3), (214, .iconst 1, 1), (215, .iadd, 1), (216, .putfield 79, 3), (219, .aload_n 0, 1), (220, .invokevirtual 230, 3), (223, .goto (-123), 3), (226, .aload_n 0, 1), (227, .bipush 41, 2), (229, .invokevirtual 119, 3), (232, .aload_n 0, 1), (233, .dup, 1), (234, .getfield 270, 3), (237, .iconst 1, 1), (238, .isub, 1), (239, .putfield 270, 3), (242, .iload_n 2, 1), (243, .ifCond .eq 14, 3), (246, .iload 4, 2), (248, .iconst 1, 1), (249, .if_icmp .ne 8, 3), (252, .iload 5, 2), (254, .ifCond .ne 9, 3), (257, .aload_n 0, 1), (258, .iconst 2, 1), (259, .iload_n 1, 1), (260, .invokevirtual 276, 3), (263, .iload_n 3, 1), (264, .ireturn, 1)]
def X212 : MT := (k212, pl15, (some FieldType.int), false, [])
theorem k212_d : ∀ q ∈ k212, decode cX15_function q.1 = .ok q.2 := by decide +kernel
theorem X212_ok : CodeOK (Mof mE212) X212 := ⟨code_1 k212_d (by decide +kernel), rfl, fun h => absurd h (by decide), Or.inl ⟨rfl, rfl⟩, thr_0 (by decide +kernel)⟩
def k213 : Code1 := [(0, .aload_n 0, 1), (1, .iconst 0, 1), (2, .putfield 64, 3), (5, .iload_n 1, 1), (6, .ifCond .lt 11, 3), (9, .iload_n 1, 1), (10, .aload_n 0, 1), (11, .getfield 73, 3), (14, .if_icmp .le 5, 3), (17, .iconst (-1), 1), (18, .ireturn, 1), (19, .aload_n 0, 1), (20, .iconst 0, 1), (21, .putfield 73, 3), (24, .aload_n 0, 1), (25, .iload_n 1, 1), (26, .putfield 76, 3), (29, .aload_n 0, 1), (30, .iconst 0, 1), (31, .putfield 79, 3), (34, .aload_n 0, 1), (35, .sipush 2400, 3), (38, .putfield 105, 3), (41, .aload_n 0, 1), (42, .getfield 48, 3), (45, .iconst 0, 1), (46, .putfield 252, 3), (49, .aload_n 0, 1), (50, .iconst 0, 1), (51, .putfield 270, 3), (54, .aload_n 0, 1), (55, .iconst (-1), 1), (56, .putfield 264, 3), (59, .aload_n 0, 1), (60, .bipush 36, 2), (62, .invokevirtual 119, 3), (65, .aload_n 0, 1), (66, .getfield 48, 3), (69, .aload_n 0, 1), (70, .iconst 0, 1), (71, .iconst 1, 1), (72, .invokevirtual 329, 3), (75, .putfield 397, 3), (78, .aload_n 0, 1), (79, .getfield 79, 3), (82, .aload_n 0, 1), (83, .getfield 76, 3), (86, .if_icmp .ge 8, 3), (89, .aload_n 0, 1), (90, .invokevirtual 97, 3), (93, .athrow, 1), (94, .goto 17, 3), (97, .astore_n 2, 1), (98, .aload_n 0, 1), (99, .aload_n 2, 1), (100, .getfield 67, 3), (103, .aload_n 2, 1), (104, .getfield 70, 3), (107, .invokevirtual 243, 3), (110, .ireturn, 1), (111, .aload_n 0, 1), (112, .getfield 264, 3), (115, .iconst (-1), 1), (116, .if_icmp .eq 16, 3), (119, .aload_n 0, 1), (120, .aload_n 0, 1), (121, .getfield 267, 3), (124, .aload_n 0, 1), (125, .getfield 264, 3), (128, .invokevirtual 243, 3), (131, .ireturn, 1), (132, .aload_n 0, 1), (133, .getfield 48, 3), (136, .aload_n 0, 1), (137, .getfield 304, 3), (140, .putfield 399, 3), (143, .sipush 2400, 3), (146, .istore_n 2, 1), (147, .iload_n 2, 1), (148, .aload_n 0, 1), (149, .getfield 105, 3), (152, .if_icmp .ge 25, 3), (155, .aload_n 0, 1), (156, .getfield 20, 3), (159, .iload_n 2, 1), (160, .sipush 1200, 3), (163, .isub, 1), (164, .aload_n 0, 1), (165, .getfield 20, 3), (168, .iload_n 2, 1), (169, .iaload, 1), (170, .iastore, 1), (171, .iinc 2 1, 3), (174, .goto (-27), 3), (177, .iconst 0, 1), (178, .istore_n 2, 1), (179, .iload_n 2, 1), (180, .aload_n 0, 1), (181, .getfield 48, 3), (184, .getfield 252, 3), (187, .if_icmp .ge 51, 3), (190, .aload_n 0, 1), (191, .getfield 48, 3), (194, .getfield 253, 3), (197, .iload_n 2, 1), (198, .iaload, 1), (199, .iconst 1, 1), (200, .if_icmp .eq 17, 3), (203, .aload_n 0, 1), (204, .getfield 48, 3), (207, .getfield 253, 3), (210, .iload_n 2, 1), (211, .iaload, 1), (212, .bipush 21, 2), (214, .if_icmp .ne 18, 3), (217, .aload_n 0, 1), (218, .getfield 48, 3), (221, .getfield 254, 3), (224, .iload_n 2, 1), (225, .dup2, 1), (226, .iaload, 1), (227, .sipush 1200, 3), (230, .isub, 1), (231, .iastore, 1), (232, .iinc 2 1, 3), (235, .goto (-56), 3), (238, .aload_n 0, 1), (239, .getfield 44, 3), (242, .astore_n 2, 1), (243, .aload_n 0, 1), (244, .aload_n 0, 1), (245, .getfield 48, 3), (248, .putfield 44, 3), (251, .aload_n 0, 1), (252, .aload_n 2, 1), (253, .putfield 48, 3), (256, .aload_n 0, 1), (257, .iconst 1, 1), (258, .putfield 402, 3), (261, .aload_n 0, 1), (262, .iconst 0, 1), (263, .putfield 249, 3), (266, .aload_n 0, 1), (267, .iconst 0, 1), (268, .iconst (-1), 1), (269, .invokevirtual 243, 3), (272, .ireturn, 1)]
def X213 : MT := (k213, pl15, (some FieldType.int), false, [(59, 94, 97, 16)])
theorem k213_d : ∀ q ∈ k213, decode cX15_query q.1 = .ok q.2 := by decide +kernel
theorem X213_ok : CodeOK (Mof mE213) X213 := ⟨code_1 k213_d (by decide +kernel), rfl, fun h => absurd h (by decide), Or.inr ⟨59, 94, 97, 9, 16, rfl, rfl, by decide, Or.inl ⟨rfl, gw (tw6 (i := 84) rfl) rfl⟩⟩, thr_0 (by decide +kernel)⟩
def k214 : Code1 := [(0, .aload_n 0, 1), (1, .getfield 405, 3), (4, .ldc_w 408, 3), (7, .if_icmp .ne 11, 3), (10, .aload_n 0, 1), (11, .bipush (-3), 2), (13, .iconst 0, 1), (14, .invokevirtual 90, 3), (17, .athrow, 1), (18, .aload_n 0, 1), (19, .dup, 1), (20, .getfield 405, 3), (23, .iconst 1, 1), (24, .iadd, 1), (25, .putfield 405, 3), (28, .return_, 1)]
def X214 : MT := (k214, pl15, none, false, [])
theorem k214_d : ∀ q ∈ k214, decode cX15_look q.1 = .ok q.2 := by decide +kernel
theorem X214_ok : CodeOK (Mof mE214) X214 := ⟨code_1 k214_d (by decide +kernel), rfl, fun h => absurd h (by decide), Or.inl ⟨rfl, rfl⟩, thr_0 (by decide +kernel)⟩
def k215 : Code1 := [(0, .aload_n 0, 1), (1, .getfield 409, 3), (4, .sipush 1000, 3), (7, .if_icmp .ne 11, 3), (10, .aload_n 0, 1), (11, .bipush (-4), 2), (13, .iconst 0, 1), (14, .invokevirtual 90, 3), (17, .athrow, 1), (18, .aload_n 0, 1), (19, .getfield 55, 3), (22, .aload_n 0, 1), (23, .getfield 412, 3), (26, .aload_n 0, 1), (27, .getfield 409, 3), (30, .iadd, 1), (31, .iload_n 1, 1), (32, .iastore, 1), (33, .aload_n 0, 1), (34, .dup, 1), (35, .getfield 409, 3), (38, .iconst 1, 1), (39, .iadd, 1), (40, .putfield 409, 3), (43, .return_, 1)]
def X215 : MT := (k215, pl15, none, false, [])
theorem k215_d : ∀ q ∈ k215, decode cX15_comes q.1 = .ok q.2 := by decide +kernel
theorem X215_ok : CodeOK (Mof mE215) X215 := ⟨code_1 k215_d (by decide +kernel), rfl, fun h => absurd h (by decide), Or.inl ⟨rfl, rfl⟩, thr_0 (by decide +kernel)⟩
def k216 : Code1 := [(0, .iconst 2, 1), (1, .iload_n 3, 1), (2, .imul, 1), (3, .sipush 1000, 3), (6, .imul, 1), (7, .istore 4, 2), (9, .iload 4, 2), (11, .sipush 1000, 3), (14, .iadd, 1), (15, .istore 5, 2), (17, .aload_n 0, 1), (18, .getfield 55, 3), (21, .iload 4, 2), (23, .iload_n 2, 1), (24, .iastore, 1), (25, .iconst 1, 1), (26, .istore 6, 2), (28, .iload_n 1, 1), (29, .istore 7, 2), (31, .iload 7, 2), (33, .iconst (-1), 1), (34, .if_icmp .eq 156, 3), (37, .aload_n 0, 1), (38, .iload 5, 2), (40, .putfield 412, 3), (43, .aload_n 0, 1), (44, .iconst 0, 1), (45, .putfield 409, 3), (48, .iconst 0, 1), (49, .istore 8, 2), (51, .iload 8, 2), (53, .iload 6, 2), (55, .if_icmp .ge 78, 3), (58, .aload_n 0, 1), (59, .getfield 55, 3), (62, .iload 4, 2), (64, .iload 8, 2), (66, .iadd, 1), (67, .iaload, 1), (68, .istore 9, 2), (70, .aload_n 0, 1), (71, .getfield 44, 3), (74, .getfield 261, 3), (77, .iload 7, 2), (79, .iaload, 1), (80, .iconst 1, 1), (81, .if_icmp .ne 23, 3), (84, .aload_n 0, 1), (85, .aload_n 0, 1), (86, .getfield 44, 3), (89, .getfield 254, 3), (92, .iload 7, 2), (94, .iaload, 1), (95, .iload 9, 2), (97, .iload_n 3, 1), (98, .invokevirtual 415, 3), (101, .goto 20, 3), (104, .aload_n 0, 1), (105, .aload_n 0, 1), (106, .getfield 44, 3), (109, .getfield 254, 3), (112, .iload 7, 2), (114, .iaload, 1), (115, .iload 9, 2), (117, .iload_n 3, 1), (118, .invokevirtual 419, 3), (121, .aload_n 0, 1), (122, .iload 5, 2), (124, .putfield 412, 3), (127, .iinc 8 1, 3), (130, .goto (-79), 3), (133, .aload_n 0, 1), (134, .getfield 409, 3), (137, .istore 6, 2), (139, .iconst 0, 1), (140, .istore 8, 2), (142, .iload 8, 2), (144, .iload 6, 2), (146, .if_icmp .ge 29, 3), (149, .aload_n 0, 1), (150, .getfield 55, 3), (153, .iload 4, 2), (155, .iload 8, 2), (157, .iadd, 1), (158, .aload_n 0, 1), (159, .getfield 55, 3), (162, .iload 5, 2), (164, .iload 8, 2), (166, .iadd, 1), (167, .iaload, 1), (168, .iastore, 1), (169, .iinc 8 1, 3), (172, .goto (-30), 3), (175, .aload_n 0, 1), (176, .getfield 44, 3), (179, .getfield 260, 3), (182, .iload 7, 2), (184, .iaload, 1), (185, .istore 7, 2), (187, .goto (-156), 3), (190, .iload 6, 2), (192, .ireturn, 1)]
def X216 : MT := (k216, pl15, (some FieldType.int), false, [])
theorem k216_d : ∀ q ∈ k216, decode cX15_nodes q.1 = .ok q.2 := by decide +kernel
theorem X216_ok : CodeOK (Mof mE216) X216 := ⟨code_1 k216_d (by decide +kernel), rfl, fun h => absurd h (by decide), Or.inl ⟨rfl, rfl⟩, thr_0 (by decide +kernel)⟩
def k217 : Code1 := [(0, .aload_n 0, 1), (1, .invokevirtual 422, 3), (4, .aload_n 0, 1), (5, .iload_n 1, 1), (6, .iload_n 2, 1), (7, .iload_n 3, 1), (8, .invokevirtual 419, 3), (11, .aload_n 0, 1), (12, .getfield 27, 3), (15, .getfield 172, 3), (18, .iload_n 2, 1), (19, .iaload, 1), (20, .istore 4, 2), (22, .iload 4, 2), (24, .iconst (-1), 1), (25, .if_icmp .eq 26, 3), (28, .aload_n 0, 1), (29, .iload_n 1, 1), (30, .iload 4, 2), (32, .iload_n 3, 1), (33, .invokevirtual 415, 3), (36, .aload_n 0, 1), (37, .getfield 27, 3), (40, .getfield 178, 3), (43, .iload 4, 2), (45, .iaload, 1), (46, .istore 4, 2), (48, .goto (-26), 3), (51, .return_, 1)]
def X217 : MT := (k217, pl15, none, false, [])
theorem k217_d : ∀ q ∈ k217, decode cX15_down q.1 = .ok q.2 := by decide +kernel
theorem X217_ok : CodeOK (Mof mE217) X217 := ⟨code_1 k217_d (by decide +kernel), rfl, fun h => absurd h (by decide), Or.inl ⟨rfl, rfl⟩, thr_0 (by decide +kernel)⟩
def k218 : Code1 := [(0, .iload_n 1, 1), (1, .istore 4, 2), (3, .iload 4, 2), (5, .iconst (-1), 1), (6, .if_icmp .eq 303, 3), (9, .aload_n 0, 1), (10, .invokevirtual 422, 3), (13, .aload_n 0, 1), (14, .getfield 44, 3), (17, .getfield 253, 3), (20, .iload 4, 2), (22, .iaload, 1), (23, .tableswitch 255 1 4 #[29, 89, 130, 232], 29), (52, .aload_n 0, 1), (53, .getfield 27, 3), (56, .getfield 210, 3), (59, .iload_n 2, 1), (60, .iaload, 1), (61, .bipush 6, 2), (63, .if_icmp .ne 31, 3), (66, .aload_n 0, 1), (67, .iload_n 2, 1), (68, .aload_n 0, 1), (69, .getfield 44, 3), (72, .getfield 254, 3), (75, .iload 4, 2), (77, .iaload, 1), (78, .aload_n 0, 1), (79, .getfield 44, 3), (82, .getfield 257, 3), (85, .iload 4, 2), (87, .iaload, 1), (88, .invokevirtual 425, 3), (91, .goto 4, 3), (94, .iconst (-1), 1), (95, .istore 5, 2), (97, .iload 5, 2), (99, .iconst (-1), 1), (100, .if_icmp .eq 194, 3), (103, .aload_n 0, 1), (104, .iload 5, 2), (106, .invokevirtual 429, 3), (109, .goto 185, 3), (112, .aload_n 0, 1), (113, .getfield 27, 3), (116, .getfield 172, 3), (119, .iload_n 2, 1), (120, .iaload, 1), (121, .istore 5, 2), (123, .iload 5, 2), (125, .iconst (-1), 1), (126, .if_icmp .eq 24, 3), (129, .aload_n 0, 1), (130, .iload 5, 2), (132, .invokevirtual 429, 3), (135, .aload_n 0, 1), (136, .getfield 27, 3), (139, .getfield 178, 3), (142, .iload 5, 2), (144, .iaload, 1), (145, .istore 5, 2), (147, .goto (-24), 3), (150, .goto 144, 3), (153, .aload_n 0, 1), (154, .getfield 44, 3), (157, .getfield 298, 3), (160, .iload 4, 2), (162, .laload, 1), (163, .lconst 0, 1), (164, .lcmp, 1), (165, .ifCond .ge 27, 3), (168, .aload_n 0, 1), (169, .getfield 44, 3), (172, .getfield 298, 3), (175, .iload 4, 2), (177, .laload, 1), (178, .aload_n 0, 1), (179, .getfield 27, 3), (182, .getfield 184, 3), (185, .iload_n 2, 1), (186, .iaload, 1), (187, .i2l, 1), (188, .ladd, 1), (189, .goto 13, 3), (192, .aload_n 0, 1), (193, .getfield 44, 3), (196, .getfield 298, 3), (199, .iload 4, 2), (201, .laload, 1), (202, .lstore 5, 2), (204, .aload_n 0, 1), (205, .getfield 27, 3), (208, .getfield 210, 3), (211, .iload_n 2, 1), (212, .iaload, 1), (213, .iconst 5, 1), (214, .if_icmp .ne 80, 3), (217, .lload 5, 2), (219, .lconst 0, 1), (220, .lcmp, 1), (221, .ifCond .lt 73, 3), (224, .lload 5, 2), (226, .aload_n 0, 1), (227, .getfield 27, 3), (230, .getfield 184, 3), (233, .iload_n 2, 1), (234, .iaload, 1), (235, .i2l, 1), (236, .lcmp, 1), (237, .ifCond .ge 57, 3), (240, .aload_n 0, 1), (241, .aload_n 0, 1), (242, .iload_n 2, 1), (243, .lload 5, 2), (245, .l2i, 1), (246, .invokevirtual 432, 3), (249, .invokevirtual 429, 3), (252, .goto 42, 3), (255, .aload_n 0, 1), (256, .getfield 27, 3), (259, .getfield 210, 3), (262, .iload_n 2, 1), (263, .iaload, 1), (264, .iconst 5, 1), (265, .if_icmp .ne 29, 3), (268, .aload_n 0, 1), (269, .iload 4, 2), (271, .iload_n 2, 1), (272, .invokevirtual 435, 3), (275, .goto 19, 3), (278, .aload_n 0, 1), (279, .aload_n 0, 1), (280, .getfield 44, 3), (283, .getfield 254, 3), (286, .iload 4, 2), (288, .iaload, 1), (289, .iload_n 2, 1), (290, .iload_n 3, 1), (291, .invokevirtual 438, 3), (294, .aload_n 0, 1), (295, .getfield 44, 3), (298, .getfield 260, 3), (301, .iload 4, 2), (303, .iaload, 1), (304, .istore 4, 2), (306, .goto (-303), 3), (309, .return_, 1)]
def X218 : MT := (k218, pl15, none, false, [])
theorem k218_d : ∀ q ∈ k218, decode cX15_asked q.1 = .ok q.2 := by decide +kernel
theorem X218_ok : CodeOK (Mof mE218) X218 := ⟨code_1 k218_d (by decide +kernel), rfl, fun h => absurd h (by decide), Or.inl ⟨rfl, rfl⟩, thr_0 (by decide +kernel)⟩
def k219 : Code1 := [(0, .aload_n 0, 1), (1, .getfield 27, 3), (4, .getfield 172, 3), (7, .iload_n 1, 1), (8, .iaload, 1), (9, .istore 4, 2), (11, .iload 4, 2), (13, .iconst (-1), 1), (14, .if_icmp .eq 47, 3), (17, .aload_n 0, 1), (18, .aload_n 0, 1), (19, .getfield 27, 3), (22, .getfield 198, 3), (25, .iload 4, 2), (27, .iaload, 1), (28, .aload_n 0, 1), (29, .getfield 27, 3), (32, .getfield 201, 3), (35, .iload 4, 2), (37, .iaload, 1), (38, .iload_n 2, 1), (39, .iload_n 3, 1), (40, .invokevirtual 239, 3), (43, .ifCond .ne 18, 3), (46, .aload_n 0, 1), (47, .getfield 27, 3), (50, .getfield 178, 3), (53, .iload 4, 2), (55, .iaload, 1), (56, .istore 4, 2), (58, .goto (-47), 3), (61, .iload 4, 2), (63, .ireturn, 1)]
def X219 : MT := (k219, pl15, (some FieldType.int), false, [])
theorem k219_d : ∀ q ∈ k219, decode cX15_named q.1 = .ok q.2 := by decide +kernel
theorem X219_ok : CodeOK (Mof mE219) X219 := ⟨code_1 k219_d (by decide +kernel), rfl, fun h => absurd h (by decide), Or.inl ⟨rfl, rfl⟩, thr_0 (by decide +kernel)⟩
def k220 : Code1 := [(0, .aload_n 0, 1), (1, .getfield 27, 3), (4, .getfield 172, 3), (7, .iload_n 1, 1), (8, .iaload, 1), (9, .istore_n 3, 1), (10, .iconst 0, 1), (11, .istore 4, 2), (13, .iload 4, 2), (15, .iload_n 2, 1), (16, .if_icmp .ge 19, 3), (19, .aload_n 0, 1), (20, .getfield 27, 3), (23, .getfield 178, 3), (26, .iload_n 3, 1), (27, .iaload, 1), (28, .istore_n 3, 1), (29, .iinc 4 1, 3), (32, .goto (-19), 3), (35, .iload_n 3, 1), (36, .ireturn, 1)]
def X220 : MT := (k220, pl15, (some FieldType.int), false, [])
theorem k220_d : ∀ q ∈ k220, decode cX15_element q.1 = .ok q.2 := by decide +kernel
theorem X220_ok : CodeOK (Mof mE220) X220 := ⟨code_1 k220_d (by decide +kernel), rfl, fun h => absurd h (by decide), Or.inl ⟨rfl, rfl⟩, thr_0 (by decide +kernel)⟩
def k221 : Code1 := [(0, .lload_n 0, 1), (1, .lload_n 2, 1), (2, .lcmp, 1), (3, .ifCond .ge 7, 3), (6, .lload_n 2, 1), (7, .goto 16, 3), (10, .lload_n 0, 1), (11, .lload 4, 2), (13, .lcmp, 1), (14, .ifCond .le 8, 3), (17, .lload 4, 2), (19, .goto 4, 3), (22, .lload_n 0, 1), (23, .lreturn, 1)]
def X221 : MT := (k221, pl15, (some FieldType.long), false, [])
theorem k221_d : ∀ q ∈ k221, decode cX15_within q.1 = .ok q.2 := by decide +kernel
theorem X221_ok : CodeOK (Mof mE221) X221 := ⟨code_1 k221_d (by decide +kernel), rfl, fun h => absurd h (by decide), Or.inl ⟨rfl, rfl⟩, thr_0 (by decide +kernel)⟩
def k222 : Code1 := [(0, .aload_n 0, 1), (1, .getfield 27, 3), (4, .getfield 184, 3), (7, .iload_n 2, 1), (8, .iaload, 1), (9, .i2l, 1), (10, .lstore_n 3, 1), (11, .aload_n 0, 1), (12, .getfield 44, 3), (15, .getfield 261, 3), (18, .iload_n 1, 1), (19, .iaload, 1), (20, .istore 5, 2), (22, .iload 5, 2), (24, .iconst 4, 1), (25, .iand, 1), (26, .ifCond .eq 15, 3), (29, .aload_n 0, 1), (30, .getfield 44, 3), (33, .getfield 293, 3), (36, .iload_n 1, 1), (37, .laload, 1), (38, .goto 4, 3), (41, .lconst 1, 1), (42, .lstore 6, 2), (44, .lload 6, 2), (46, .lconst 0, 1), (47, .lcmp, 1), (48, .ifCond .ne 4, 3), (51, .return_, 1), (52, .lload 6, 2), (54, .lconst 0, 1), (55, .lcmp, 1), (56, .ifCond .le 7, 3), (59, .lconst 0, 1), (60, .goto 6, 3), (63, .ldc2_w 441, 3), (66, .lstore 8, 2), (68, .lload 6, 2), (70, .lconst 0, 1), (71, .lcmp, 1), (72, .ifCond .le 7, 3), (75, .lload_n 3, 1), (76, .goto 6, 3), (79, .lload_n 3, 1), (80, .lconst 1, 1), (81, .lsub, 1), (82, .lstore 10, 2), (84, .lload 6, 2), (86, .lconst 0, 1), (87, .lcmp, 1), (88, .ifCond .le 7, 3), (91, .lconst 0, 1), (92, .goto 6, 3), (95, .lload_n 3, 1), (96, .lconst 1, 1), (97, .lsub, 1), (98, .lstore 12, 2), (100, .iload 5, 2), (102, .iconst 1, 1), (103, .iand, 1), (104, .ifCond .eq 49, 3), (107, .aload_n 0, 1), (108, .getfield 44, 3), (111, .getfield 298, 3), (114, .iload_n 1, 1), (115, .laload, 1), (116, .lconst 0, 1), (117, .lcmp, 1), (118, .ifCond .ge 17, 3), (121, .aload_n 0, 1), (122, .getfield 44, 3), (125, .getfield 298, 3), (128, .iload_n 1, 1), (129, .laload, 1), (130, .lload_n 3, 1), (131, .ladd, 1), (132, .goto 12, 3), (135, .aload_n 0, 1), (136, .getfield 44, 3), (139, .getfield 298, 3), (142, .iload_n 1, 1), (143, .laload, 1), (144, .lload 8, 2), (146, .lload 10, 2), (148, .invokestatic 443, 3), (151, .lstore 12, 2), (153, .lload 6, 2), (155, .lconst 0, 1), (156, .lcmp, 1), (157, .ifCond .le 7, 3), (160, .lload_n 3, 1), (161, .goto 6, 3), (164, .ldc2_w 441, 3), (167, .lstore 14, 2), (169, .iload 5, 2), (171, .iconst 2, 1), (172, .iand, 1), (173, .ifCond .eq 49, 3), (176, .aload_n 0, 1), (177, .getfield 44, 3), (180, .getfield 286, 3), (183, .iload_n 1, 1), (184, .laload, 1), (185, .lconst 0, 1), (186, .lcmp, 1), (187, .ifCond .ge 17, 3), (190, .aload_n 0, 1), (191, .getfield 44, 3), (194, .getfield 286, 3), (197, .iload_n 1, 1), (198, .laload, 1), (199, .lload_n 3, 1), (200, .ladd, 1), (201, .goto 12, 3), (204, .aload_n 0, 1), (205, .getfield 44, 3), (208, .getfield 286, 3), (211, .iload_n 1, 1), (212, .laload, 1), (213, .lload 8, 2), (215, .lload 10, 2), (217, .invokestatic 443, 3), (220, .lstore 14, 2), (222, .lload 12, 2), (224, .lstore 16, 2), (226, .lload 6, 2), (228, .lconst 0, 1), (229, .lcmp, 1), (230, .ifCond .le 14, 3), (233, .lload 16, 2), (235, .lload 14, 2), (237, .lcmp, 1), (238, .ifCond .ge 36, 3), (241, .goto 11, 3), (244, .lload 16, 2), (246, .lload 14, 2), (248, .lcmp, 1), (249, .ifCond .le 25, 3), (252, .aload_n 0, 1), (253, .aload_n 0, 1), (254, .iload_n 2, 1), (255, .lload 16, 2), (257, .l2i, 1), (258, .invokevirtual 432, 3), (261, .invokevirtual 429, 3), (264, .lload 16, 2), (266, .lload 6, 2), (268, .ladd, 1), (269, .lstore 16, 2), (271, .goto (-45), 3), (274, .return_, 1)]
def X222 : MT := (k222, pl15, none, false, [])
theorem k222_d : ∀ q ∈ k222, decode cX15_sliced q.1 = .ok q.2 := by decide +kernel
theorem X222_ok : CodeOK (Mof mE222) X222 := ⟨code_1 k222_d (by decide +kernel), rfl, fun h => absurd h (by decide), Or.inl ⟨rfl, rfl⟩, thr_0 (by decide +kernel)⟩
def k223 : Code1 := [(0, .aload_n 0, 1), (1, .getfield 412, 3), (4, .istore 4, 2), (6, .aload_n 0, 1), (7, .getfield 27, 3), (10, .getfield 172, 3), (13, .iload_n 2, 1), (14, .iaload, 1), (15, .istore 5, 2), (17, .iload 5, 2), (19, .iconst (-1), 1), (20, .if_icmp .eq 63, 3), (23, .aload_n 0, 1), (24, .invokevirtual 422, 3), (27, .aload_n 0, 1), (28, .getfield 409, 3), (31, .istore 6, 2), (33, .aload_n 0, 1), (34, .iload_n 1, 1), (35, .iload 5, 2), (37, .iload_n 3, 1), (38, .iconst 1, 1), (39, .iadd, 1), (40, .invokevirtual 447, 3), (43, .istore 7, 2), (45, .aload_n 0, 1), (46, .iload 4, 2), (48, .putfield 412, 3), (51, .aload_n 0, 1), (52, .iload 6, 2), (54, .putfield 409, 3), (57, .iload 7, 2), (59, .ifCond .eq 9, 3), (62, .aload_n 0, 1), (63, .iload 5, 2), (65, .invokevirtual 429, 3), (68, .aload_n 0, 1), (69, .getfield 27, 3), (72, .getfield 178, 3), (75, .iload 5, 2), (77, .iaload, 1), (78, .istore 5, 2), (80, .goto (-63), 3), (83, .return_, 1)]
def X223 : MT := (k223, pl15, none, false, [])
theorem k223_d : ∀ q ∈ k223, decode cX15_filtered q.1 = .ok q.2 := by decide +kernel
theorem X223_ok : CodeOK (Mof mE223) X223 := ⟨code_1 k223_d (by decide +kernel), rfl, fun h => absurd h (by decide), Or.inl ⟨rfl, rfl⟩, thr_0 (by decide +kernel)⟩
def k224 : Code1 := [(0, .aload_n 0, 1), (1, .getfield 44, 3), (4, .getfield 253, 3), (7, .iload_n 1, 1), (8, .iaload, 1), (9, .tableswitch 189 10 14 #[35, 88, 141, 189, 165], 35), (44, .iconst 0, 1), (45, .istore 4, 2), (47, .aload_n 0, 1), (48, .getfield 44, 3), (51, .getfield 254, 3), (54, .iload_n 1, 1), (55, .iaload, 1), (56, .istore 5, 2), (58, .iload 5, 2), (60, .iconst (-1), 1), (61, .if_icmp .eq 33, 3), (64, .iload 4, 2), (66, .ifCond .ne 28, 3), (69, .aload_n 0, 1), (70, .iload 5, 2), (72, .iload_n 2, 1), (73, .iload_n 3, 1), (74, .invokevirtual 447, 3), (77, .istore 4, 2), (79, .aload_n 0, 1), (80, .getfield 44, 3), (83, .getfield 260, 3), (86, .iload 5, 2), (88, .iaload, 1), (89, .istore 5, 2), (91, .goto (-33), 3), (94, .iload 4, 2), (96, .ireturn, 1), (97, .iconst 1, 1), (98, .istore 4, 2), (100, .aload_n 0, 1), (101, .getfield 44, 3), (104, .getfield 254, 3), (107, .iload_n 1, 1), (108, .iaload, 1), (109, .istore 5, 2), (111, .iload 5, 2), (113, .iconst (-1), 1), (114, .if_icmp .eq 33, 3), (117, .iload 4, 2), (119, .ifCond .eq 28, 3), (122, .aload_n 0, 1), (123, .iload 5, 2), (125, .iload_n 2, 1), (126, .iload_n 3, 1), (127, .invokevirtual 447, 3), (130, .istore 4, 2), (132, .aload_n 0, 1), (133, .getfield 44, 3), (136, .getfield 260, 3), (139, .iload 5, 2), (141, .iaload, 1), (142, .istore 5, 2), (144, .goto (-33), 3), (147, .iload 4, 2), (149, .ireturn, 1), (150, .aload_n 0, 1), (151, .aload_n 0, 1), (152, .getfield 44, 3), (155, .getfield 254, 3), (158, .iload_n 1, 1), (159, .iaload, 1), (160, .iload_n 2, 1), (161, .iload_n 3, 1), (162, .invokevirtual 447, 3), (165, .ifCond .ne 7, 3), (168, .iconst 1, 1), (169, .goto 4, 3), (172, .iconst 0, 1), (173, .ireturn, 1), (174, .aload_n 0, 1), (175, .aload_n 0, 1), (176, .getfield 44, 3), (179, .getfield 254, 3), (182, .iload_n 1, 1), (183, .iaload, 1), (184, .iload_n 2, 1), (185, .iload_n 3, 1), (186, .invokevirtual 451, 3), (189, .ifCond .le 7, 3), (192, .iconst 1, 1), (193, .goto 4, 3), (196, .iconst 0, 1), (197, .ireturn, 1), (198, .aload_n 0, 1), (199, .iload_n 1, 1), (200, .iload_n 2, 1), (201, .iload_n 3, 1), (202, .invokevirtual 454, 3), (205, .ireturn, 1)]
def X224 : MT := (k224, pl15, (some FieldType.boolean), false, [])
theorem k224_d : ∀ q ∈ k224, decode cX15_isTrue q.1 = .ok q.2 := by decide +kernel
theorem X224_ok : CodeOK (Mof mE224) X224 := ⟨code_1 k224_d (by decide +kernel), rfl, fun h => absurd h (by decide), Or.inl ⟨rfl, rfl⟩, thr_0 (by decide +kernel)⟩
def k225 : Code1 := [(0, .aload_n 0, 1), (1, .aload_n 0, 1), (2, .getfield 44, 3), (5, .getfield 254, 3), (8, .iload_n 1, 1), (9, .iaload, 1), (10, .aload_n 0, 1), (11, .getfield 44, 3), (14, .getfield 261, 3), (17, .iload_n 1, 1), (18, .iaload, 1), (19, .iconst 1, 1), (20, .if_icmp .ne 7, 3), (23, .iload_n 2, 1), (24, .goto 4, 3), (27, .iconst 0, 1), (28, .iload_n 3, 1), (29, .invokevirtual 457, 3), (32, .ireturn, 1)]
def X225 : MT := (k225, pl15, (some FieldType.int), false, [])
theorem k225_d : ∀ q ∈ k225, decode cX15_pathOf q.1 = .ok q.2 := by decide +kernel
theorem X225_ok : CodeOK (Mof mE225) X225 := ⟨code_1 k225_d (by decide +kernel), rfl, fun h => absurd h (by decide), Or.inl ⟨rfl, rfl⟩, thr_0 (by decide +kernel)⟩
end
section
def k226 : Code1 := [(0, .aload_n 0, 1), (1, .aload_n 0, 1), (2, .getfield 27, 3), (5, .getfield 210, 3), (8, .iload_n 1, 1), (9, .iaload, 1), (10, .putfield 460, 3), (13, .aload_n 0, 1), (14, .aload_n 0, 1), (15, .getfield 27, 3), (18, .getfield 192, 3), (21, .iload_n 1, 1), (22, .laload, 1), (23, .putfield 461, 3), (26, .aload_n 0, 1), (27, .aload_n 0, 1), (28, .getfield 27, 3), (31, .getfield 195, 3), (34, .iload_n 1, 1), (35, .iaload, 1), (36, .putfield 463, 3), (39, .aload_n 0, 1), (40, .aload_n 0, 1), (41, .getfield 27, 3), (44, .getfield 184, 3), (47, .iload_n 1, 1), (48, .iaload, 1), (49, .putfield 465, 3), (52, .aload_n 0, 1), (53, .iload_n 1, 1), (54, .putfield 467, 3), (57, .return_, 1)]
def X226 : MT := (k226, pl15, none, false, [])
theorem k226_d : ∀ q ∈ k226, decode cX15_ofValue q.1 = .ok q.2 := by decide +kernel
theorem X226_ok : CodeOK (Mof mE226) X226 := ⟨code_1 k226_d (by decide +kernel), rfl, fun h => absurd h (by decide), Or.inl ⟨rfl, rfl⟩, thr_0 (by decide +kernel)⟩
def k227 : Code1 := [(0, .aload_n 0, 1), (1, .iconst 3, 1), (2, .putfield 460, 3), (5, .aload_n 0, 1), (6, .lload_n 1, 1), (7, .putfield 461, 3), (10, .return_, 1)]
def X227 : MT := (k227, pl15, none, false, [])
theorem k227_d : ∀ q ∈ k227, decode cX15_ofNumber q.1 = .ok q.2 := by decide +kernel
theorem X227_ok : CodeOK (Mof mE227) X227 := ⟨code_1 k227_d (by decide +kernel), rfl, fun h => absurd h (by decide), Or.inl ⟨rfl, rfl⟩, thr_0 (by decide +kernel)⟩
def k228 : Code1 := [(0, .aload_n 0, 1), (1, .iconst (-1), 1), (2, .putfield 460, 3), (5, .aload_n 0, 1), (6, .getfield 44, 3), (9, .getfield 253, 3), (12, .iload_n 1, 1), (13, .iaload, 1), (14, .tableswitch 141 20 25 #[38, 54, 88, 96, 104, 112], 38), (52, .aload_n 0, 1), (53, .aload_n 0, 1), (54, .getfield 44, 3), (57, .getfield 298, 3), (60, .iload_n 1, 1), (61, .laload, 1), (62, .invokevirtual 470, 3), (65, .goto 208, 3), (68, .aload_n 0, 1), (69, .iconst 4, 1), (70, .putfield 460, 3), (73, .aload_n 0, 1), (74, .aload_n 0, 1), (75, .getfield 44, 3), (78, .getfield 254, 3), (81, .iload_n 1, 1), (82, .iaload, 1), (83, .putfield 463, 3), (86, .aload_n 0, 1), (87, .aload_n 0, 1), (88, .getfield 44, 3), (91, .getfield 257, 3), (94, .iload_n 1, 1), (95, .iaload, 1), (96, .putfield 465, 3), (99, .goto 174, 3), (102, .aload_n 0, 1), (103, .iconst 2, 1), (104, .putfield 460, 3), (107, .goto 166, 3), (110, .aload_n 0, 1), (111, .iconst 1, 1), (112, .putfield 460, 3), (115, .goto 158, 3), (118, .aload_n 0, 1), (119, .iconst 0, 1), (120, .putfield 460, 3), (123, .goto 150, 3), (126, .aload_n 0, 1), (127, .iload_n 1, 1), (128, .iload_n 2, 1), (129, .iload_n 3, 1), (130, .invokevirtual 451, 3), (133, .ifCond .le 140, 3), (136, .aload_n 0, 1), (137, .aload_n 0, 1), (138, .getfield 55, 3), (141, .iconst 2, 1), (142, .iload_n 3, 1), (143, .imul, 1), (144, .sipush 1000, 3), (147, .imul, 1), (148, .iaload, 1), (149, .invokevirtual 474, 3), (152, .goto 121, 3), (155, .aload_n 0, 1), (156, .getfield 44, 3), (159, .getfield 254, 3), (162, .iload_n 1, 1), (163, .iaload, 1), (164, .istore 4, 2), (166, .aload_n 0, 1), (167, .getfield 44, 3), (170, .getfield 261, 3), (173, .iload_n 1, 1), (174, .iaload, 1), (175, .iconst 1, 1), (176, .if_icmp .ne 39, 3), (179, .aload_n 0, 1), (180, .iload 4, 2), (182, .iload_n 2, 1), (183, .iload_n 3, 1), (184, .invokevirtual 477, 3), (187, .aload_n 0, 1), (188, .getfield 460, 3), (191, .iconst 3, 1), (192, .if_icmp .le 15, 3), (195, .aload_n 0, 1), (196, .aload_n 0, 1), (197, .getfield 465, 3), (200, .i2l, 1), (201, .invokevirtual 470, 3), (204, .goto 69, 3), (207, .aload_n 0, 1), (208, .iconst (-1), 1), (209, .putfield 460, 3), (212, .goto 61, 3), (215, .aload_n 0, 1), (216, .iload 4, 2), (218, .iload_n 2, 1), (219, .iload_n 3, 1), (220, .invokevirtual 451, 3), (223, .istore 5, 2), (225, .aload_n 0, 1), (226, .getfield 44, 3), (229, .getfield 261, 3), (232, .iload_n 1, 1), (233, .iaload, 1), (234, .iconst 2, 1), (235, .if_icmp .ne 13, 3), (238, .aload_n 0, 1), (239, .iload 5, 2), (241, .i2l, 1), (242, .invokevirtual 470, 3), (245, .goto 25, 3), (248, .iload 5, 2), (250, .iconst 1, 1), (251, .if_icmp .ne 19, 3), (254, .aload_n 0, 1), (255, .aload_n 0, 1), (256, .getfield 55, 3), (259, .iconst 2, 1), (260, .iload_n 3, 1), (261, .imul, 1), (262, .sipush 1000, 3), (265, .imul, 1), (266, .iaload, 1), (267, .invokevirtual 474, 3), (270, .goto 3, 3), (273, .return_, 1)]
def X228 : MT := (k228, pl15, none, false, [])
theorem k228_d : ∀ q ∈ k228, decode cX15_comesTo q.1 = .ok q.2 := by decide +kernel
theorem X228_ok : CodeOK (Mof mE228) X228 := ⟨code_1 k228_d (by decide +kernel), rfl, fun h => absurd h (by decide), Or.inl ⟨rfl, rfl⟩, thr_0 (by decide +kernel)⟩
def k229 : Code1 := [(0, .aload_n 0, 1), (1, .aload_n 0, 1), (2, .getfield 44, 3), (5, .getfield 254, 3), (8, .iload_n 1, 1), (9, .iaload, 1), (10, .iload_n 2, 1), (11, .iload_n 3, 1), (12, .invokevirtual 477, 3), (15, .aload_n 0, 1), (16, .getfield 460, 3), (19, .istore 4, 2), (21, .aload_n 0, 1), (22, .getfield 463, 3), (25, .istore 5, 2), (27, .aload_n 0, 1), (28, .getfield 465, 3), (31, .istore 6, 2), (33, .aload_n 0, 1), (34, .getfield 467, 3), (37, .istore 7, 2), (39, .aload_n 0, 1), (40, .getfield 461, 3), (43, .lstore 8, 2), (45, .aload_n 0, 1), (46, .aload_n 0, 1), (47, .getfield 44, 3), (50, .getfield 257, 3), (53, .iload_n 1, 1), (54, .iaload, 1), (55, .iload_n 2, 1), (56, .iload_n 3, 1), (57, .invokevirtual 477, 3), (60, .aload_n 0, 1), (61, .getfield 44, 3), (64, .getfield 261, 3), (67, .iload_n 1, 1), (68, .iaload, 1), (69, .istore 10, 2), (71, .iload 10, 2), (73, .iconst 1, 1), (74, .if_icmp .eq 9, 3), (77, .iload 10, 2), (79, .iconst 2, 1), (80, .if_icmp .ne 57, 3), (83, .aload_n 0, 1), (84, .iload 4, 2), (86, .lload 8, 2), (88, .iload 5, 2), (90, .iload 6, 2), (92, .iload 7, 2), (94, .aload_n 0, 1), (95, .getfield 460, 3), (98, .aload_n 0, 1), (99, .getfield 461, 3), (102, .aload_n 0, 1), (103, .getfield 463, 3), (106, .aload_n 0, 1), (107, .getfield 465, 3), (110, .aload_n 0, 1), (111, .getfield 467, 3), (114, .invokevirtual 480, 3), (117, .iload 10, 2), (119, .iconst 1, 1), (120, .if_icmp .ne 7, 3), (123, .iconst 1, 1), (124, .goto 4, 3), (127, .iconst 0, 1), (128, .if_icmp .ne 7, 3), (131, .iconst 1, 1), (132, .goto 4, 3), (135, .iconst 0, 1), (136, .ireturn, 1), (137, .iload 10, 2), (139, .iconst 5, 1), (140, .if_icmp .eq 10, 3), (143, .iload 10, 2), (145, .bipush 6, 2), (147, .if_icmp .ne 7, 3), (150, .iconst 1, 1), (151, .goto 4, 3), (154, .iconst 0, 1), (155, .istore 11, 2), (157, .iload 11, 2), (159, .ifCond .eq 34, 3), (162, .aload_n 0, 1), (163, .aload_n 0, 1), (164, .getfield 460, 3), (167, .aload_n 0, 1), (168, .getfield 461, 3), (171, .aload_n 0, 1), (172, .getfield 463, 3), (175, .aload_n 0, 1), (176, .getfield 465, 3), (179, .iload 4, 2), (181, .lload 8, 2), (183, .iload 5, 2), (185, .iload 6, 2), (187, .invokevirtual 484, 3), (190, .goto 31, 3), (193, .aload_n 0, 1), (194, .iload 4, 2), (196, .lload 8, 2), (198, .iload 5, 2), (200, .iload 6, 2), (202, .aload_n 0, 1), (203, .getfield 460, 3), (206, .aload_n 0, 1), (207, .getfield 461, 3), (210, .aload_n 0, 1), (211, .getfield 463, 3), (214, .aload_n 0, 1), (215, .getfield 465, 3), (218, .invokevirtual 484, 3), (221, .istore 12, 2), (223, .iload 12, 2), (225, .ifCond .ne 15, 3), (228, .iload 10, 2), (230, .iconst 3, 1), (231, .if_icmp .eq 9, 3), (234, .iload 10, 2), (236, .iconst 5, 1), (237, .if_icmp .ne 6, 3), (240, .iload 12, 2), (242, .ireturn, 1), (243, .iload 11, 2), (245, .ifCond .eq 38, 3), (248, .aload_n 0, 1), (249, .aload_n 0, 1), (250, .getfield 460, 3), (253, .aload_n 0, 1), (254, .getfield 461, 3), (257, .aload_n 0, 1), (258, .getfield 463, 3), (261, .aload_n 0, 1), (262, .getfield 465, 3), (265, .aload_n 0, 1), (266, .getfield 467, 3), (269, .iload 4, 2), (271, .lload 8, 2), (273, .iload 5, 2), (275, .iload 6, 2), (277, .iload 7, 2), (279, .invokevirtual 480, 3), (282, .ireturn, 1), (283, .aload_n 0, 1), (284, .iload 4, 2), (286, .lload 8, 2), (288, .iload 5, 2), (290, .iload 6, 2), (292, .iload 7, 2), (294, .aload_n 0, 1), (295, .getfield 460, 3), (298, .aload_n 0, 1), (299, .getfield 461, 3), (302, .aload_n 0, 1), (303, .getfield 463, 3), (306, .aload_n 0, 1), (307, .getfield 465, 3), (310, .aload_n 0, 1), (311, .getfield 467, 3), (314, .invokevirtual 480, 3), (317, .ireturn, 1)]
def X229 : MT := (k229, pl15, (some FieldType.boolean), false, [])
theorem k229_d : ∀ q ∈ k229, decode cX15_compares q.1 = .ok q.2 := by decide +kernel
theorem X229_ok : CodeOK (Mof mE229) X229 := ⟨code_1 k229_d (by decide +kernel), rfl, fun h => absurd h (by decide), Or.inl ⟨rfl, rfl⟩, thr_0 (by decide +kernel)⟩
def k230 : Code1 := [(0, .iload_n 1, 1), (1, .iload 6, 2), (3, .if_icmp .ne 13, 3), (6, .iload_n 1, 1), (7, .iconst 3, 1), (8, .if_icmp .eq 10, 3), (11, .iload_n 1, 1), (12, .iconst 4, 1), (13, .if_icmp .eq 5, 3), (16, .iconst 0, 1), (17, .ireturn, 1), (18, .iload_n 1, 1), (19, .iconst 3, 1), (20, .if_icmp .ne 16, 3), (23, .lload_n 2, 1), (24, .lload 7, 2), (26, .lcmp, 1), (27, .ifCond .ge 7, 3), (30, .iconst 1, 1), (31, .goto 4, 3), (34, .iconst 0, 1), (35, .ireturn, 1), (36, .iconst 0, 1), (37, .istore 11, 2), (39, .iload 11, 2), (41, .iload 5, 2), (43, .if_icmp .ge 39, 3), (46, .iload 11, 2), (48, .iload 10, 2), (50, .if_icmp .ge 32, 3), (53, .aload_n 0, 1), (54, .getfield 20, 3), (57, .iload 4, 2), (59, .iload 11, 2), (61, .iadd, 1), (62, .iaload, 1), (63, .aload_n 0, 1), (64, .getfield 20, 3), (67, .iload 9, 2), (69, .iload 11, 2), (71, .iadd, 1), (72, .iaload, 1), (73, .if_icmp .ne 9, 3), (76, .iinc 11 1, 3), (79, .goto (-40), 3), (82, .iload 11, 2), (84, .iload 10, 2), (86, .if_icmp .ge 37, 3), (89, .iload 11, 2), (91, .iload 5, 2), (93, .if_icmp .eq 26, 3), (96, .aload_n 0, 1), (97, .getfield 20, 3), (100, .iload 4, 2), (102, .iload 11, 2), (104, .iadd, 1), (105, .iaload, 1), (106, .aload_n 0, 1), (107, .getfield 20, 3), (110, .iload 9, 2), (112, .iload 11, 2), (114, .iadd, 1), (115, .iaload, 1), (116, .if_icmp .ge 7, 3), (119, .iconst 1, 1), (120, .goto 4, 3), (123, .iconst 0, 1), (124, .ireturn, 1)]
def X230 : MT := (k230, pl15, (some FieldType.boolean), false, [])
theorem k230_d : ∀ q ∈ k230, decode cX15_isLess q.1 = .ok q.2 := by decide +kernel
theorem X230_ok : CodeOK (Mof mE230) X230 := ⟨code_1 k230_d (by decide +kernel), rfl, fun h => absurd h (by decide), Or.inl ⟨rfl, rfl⟩, thr_0 (by decide +kernel)⟩
def k231 : Code1 := [(0, .iload_n 1, 1), (1, .iconst (-1), 1), (2, .if_icmp .eq 9, 3), (5, .iload 7, 2), (7, .iconst (-1), 1), (8, .if_icmp .ne 15, 3), (11, .iload_n 1, 1), (12, .iload 7, 2), (14, .if_icmp .ne 7, 3), (17, .iconst 1, 1), (18, .goto 4, 3), (21, .iconst 0, 1), (22, .ireturn, 1), (23, .aload_n 0, 1), (24, .invokevirtual 422, 3), (27, .iload_n 1, 1), (28, .iload 7, 2), (30, .if_icmp .eq 5, 3), (33, .iconst 0, 1), (34, .ireturn, 1), (35, .iload_n 1, 1), (36, .tableswitch 82 3 6 #[32, 45, 58, 58], 32), (68, .lload_n 2, 1), (69, .lload 8, 2), (71, .lcmp, 1), (72, .ifCond .ne 7, 3), (75, .iconst 1, 1), (76, .goto 4, 3), (79, .iconst 0, 1), (80, .ireturn, 1), (81, .aload_n 0, 1), (82, .iload 4, 2), (84, .iload 5, 2), (86, .iload 10, 2), (88, .iload 11, 2), (90, .invokevirtual 239, 3), (93, .ireturn, 1), (94, .iload 5, 2), (96, .iload 11, 2), (98, .if_icmp .ne 18, 3), (101, .aload_n 0, 1), (102, .iload 6, 2), (104, .iload 12, 2), (106, .invokevirtual 488, 3), (109, .ifCond .eq 7, 3), (112, .iconst 1, 1), (113, .goto 4, 3), (116, .iconst 0, 1), (117, .ireturn, 1), (118, .iconst 1, 1), (119, .ireturn, 1)]
def X231 : MT := (k231, pl15, (some FieldType.boolean), false, [])
theorem k231_d : ∀ q ∈ k231, decode cX15_alike q.1 = .ok q.2 := by decide +kernel
theorem X231_ok : CodeOK (Mof mE231) X231 := ⟨code_1 k231_d (by decide +kernel), rfl, fun h => absurd h (by decide), Or.inl ⟨rfl, rfl⟩, thr_0 (by decide +kernel)⟩
def k232 : Code1 := [(0, .aload_n 0, 1), (1, .getfield 27, 3), (4, .getfield 172, 3), (7, .iload_n 2, 1), (8, .iaload, 1), (9, .istore_n 3, 1), (10, .aload_n 0, 1), (11, .getfield 27, 3), (14, .getfield 172, 3), (17, .iload_n 1, 1), (18, .iaload, 1), (19, .istore 4, 2), (21, .iload 4, 2), (23, .iconst (-1), 1), (24, .if_icmp .eq 100, 3), (27, .aload_n 0, 1), (28, .getfield 27, 3), (31, .getfield 210, 3), (34, .iload_n 1, 1), (35, .iaload, 1), (36, .iconst 5, 1), (37, .if_icmp .ne 7, 3), (40, .iload_n 3, 1), (41, .goto 28, 3), (44, .aload_n 0, 1), (45, .iload_n 2, 1), (46, .aload_n 0, 1), (47, .getfield 27, 3), (50, .getfield 198, 3), (53, .iload 4, 2), (55, .iaload, 1), (56, .aload_n 0, 1), (57, .getfield 27, 3), (60, .getfield 201, 3), (63, .iload 4, 2), (65, .iaload, 1), (66, .invokevirtual 425, 3), (69, .istore 5, 2), (71, .iload 5, 2), (73, .iconst (-1), 1), (74, .if_icmp .eq 14, 3), (77, .aload_n 0, 1), (78, .iload 4, 2), (80, .iload 5, 2), (82, .invokevirtual 492, 3), (85, .ifCond .ne 5, 3), (88, .iconst 0, 1), (89, .ireturn, 1), (90, .iload_n 3, 1), (91, .iconst (-1), 1), (92, .if_icmp .ne 7, 3), (95, .iconst (-1), 1), (96, .goto 12, 3), (99, .aload_n 0, 1), (100, .getfield 27, 3), (103, .getfield 178, 3), (106, .iload_n 3, 1), (107, .iaload, 1), (108, .istore_n 3, 1), (109, .aload_n 0, 1), (110, .getfield 27, 3), (113, .getfield 178, 3), (116, .iload 4, 2), (118, .iaload, 1), (119, .istore 4, 2), (121, .goto (-100), 3), (124, .iconst 1, 1), (125, .ireturn, 1)]
def X232 : MT := (k232, pl15, (some FieldType.boolean), false, [])
theorem k232_d : ∀ q ∈ k232, decode cX15_areAlike q.1 = .ok q.2 := by decide +kernel
theorem X232_ok : CodeOK (Mof mE232) X232 := ⟨code_1 k232_d (by decide +kernel), rfl, fun h => absurd h (by decide), Or.inl ⟨rfl, rfl⟩, thr_0 (by decide +kernel)⟩
def k233 : Code1 := [(0, .aload_n 0, 1), (1, .aload_n 0, 1), (2, .getfield 27, 3), (5, .getfield 210, 3), (8, .iload_n 1, 1), (9, .iaload, 1), (10, .aload_n 0, 1), (11, .getfield 27, 3), (14, .getfield 192, 3), (17, .iload_n 1, 1), (18, .laload, 1), (19, .aload_n 0, 1), (20, .getfield 27, 3), (23, .getfield 195, 3), (26, .iload_n 1, 1), (27, .iaload, 1), (28, .aload_n 0, 1), (29, .getfield 27, 3), (32, .getfield 184, 3), (35, .iload_n 1, 1), (36, .iaload, 1), (37, .iload_n 1, 1), (38, .aload_n 0, 1), (39, .getfield 27, 3), (42, .getfield 210, 3), (45, .iload_n 2, 1), (46, .iaload, 1), (47, .aload_n 0, 1), (48, .getfield 27, 3), (51, .getfield 192, 3), (54, .iload_n 2, 1), (55, .laload, 1), (56, .aload_n 0, 1), (57, .getfield 27, 3), (60, .getfield 195, 3), (63, .iload_n 2, 1), (64, .iaload, 1), (65, .aload_n 0, 1), (66, .getfield 27, 3), (69, .getfield 184, 3), (72, .iload_n 2, 1), (73, .iaload, 1), (74, .iload_n 2, 1), (75, .invokevirtual 480, 3), (78, .ireturn, 1)]
def X233 : MT := (k233, pl15, (some FieldType.boolean), false, [])
theorem k233_d : ∀ q ∈ k233, decode cX15_areSameValues q.1 = .ok q.2 := by decide +kernel
theorem X233_ok : CodeOK (Mof mE233) X233 := ⟨code_1 k233_d (by decide +kernel), rfl, fun h => absurd h (by decide), Or.inl ⟨rfl, rfl⟩, thr_0 (by decide +kernel)⟩
def k234 : Code1 := [(0, .aload_n 0, 1), (1, .iconst 0, 1), (2, .putfield 64, 3), (5, .aload_n 0, 1), (6, .getfield 246, 3), (9, .ifCond .eq 10, 3), (12, .aload_n 0, 1), (13, .getfield 402, 3), (16, .ifCond .ne 5, 3), (19, .iconst (-1), 1), (20, .ireturn, 1), (21, .aload_n 0, 1), (22, .iconst 0, 1), (23, .putfield 405, 3), (26, .aload_n 0, 1), (27, .iconst 0, 1), (28, .putfield 249, 3), (31, .aload_n 0, 1), (32, .aload_n 0, 1), (33, .getfield 44, 3), (36, .getfield 397, 3), (39, .iconst 0, 1), (40, .iconst 0, 1), (41, .invokevirtual 457, 3), (44, .istore_n 1, 1), (45, .goto 9, 3), (48, .astore_n 2, 1), (49, .aload_n 2, 1), (50, .getfield 67, 3), (53, .ireturn, 1), (54, .iconst 0, 1), (55, .istore_n 2, 1), (56, .iload_n 2, 1), (57, .iload_n 1, 1), (58, .if_icmp .ge 21, 3), (61, .aload_n 0, 1), (62, .getfield 51, 3), (65, .iload_n 2, 1), (66, .aload_n 0, 1), (67, .getfield 55, 3), (70, .iload_n 2, 1), (71, .iaload, 1), (72, .iastore, 1), (73, .iinc 2 1, 3), (76, .goto (-20), 3), (79, .aload_n 0, 1), (80, .iload_n 1, 1), (81, .putfield 249, 3), (84, .iload_n 1, 1), (85, .ireturn, 1)]
def X234 : MT := (k234, pl15, (some FieldType.int), false, [(31, 45, 48, 16)])
theorem k234_d : ∀ q ∈ k234, decode cX15_find q.1 = .ok q.2 := by decide +kernel
theorem X234_ok : CodeOK (Mof mE234) X234 := ⟨code_1 k234_d (by decide +kernel), rfl, fun h => absurd h (by decide), Or.inr ⟨31, 45, 48, 9, 16, rfl, rfl, by decide, Or.inl ⟨rfl, gw (tw6 (i := 84) rfl) rfl⟩⟩, thr_0 (by decide +kernel)⟩
def k235 : Code1 := [(0, .iload_n 1, 1), (1, .ifCond .lt 15, 3), (4, .iload_n 1, 1), (5, .aload_n 0, 1), (6, .getfield 249, 3), (9, .if_icmp .ge 7, 3), (12, .iconst 1, 1), (13, .goto 4, 3), (16, .iconst 0, 1), (17, .ireturn, 1)]
def X235 : MT := (k235, pl15, (some FieldType.boolean), false, [])
theorem k235_d : ∀ q ∈ k235, decode cX15_isFound q.1 = .ok q.2 := by decide +kernel
theorem X235_ok : CodeOK (Mof mE235) X235 := ⟨code_1 k235_d (by decide +kernel), rfl, fun h => absurd h (by decide), Or.inl ⟨rfl, rfl⟩, thr_0 (by decide +kernel)⟩
def k236 : Code1 := [(0, .aload_n 0, 1), (1, .getfield 27, 3), (4, .getfield 189, 3), (7, .iload_n 1, 1), (8, .iaload, 1), (9, .iconst 1, 1), (10, .isub, 1), (11, .ireturn, 1)]
def X236 : MT := (k236, pl15, (some FieldType.int), false, [])
theorem k236_d : ∀ q ∈ k236, decode cX15_steps q.1 = .ok q.2 := by decide +kernel
theorem X236_ok : CodeOK (Mof mE236) X236 := ⟨code_1 k236_d (by decide +kernel), rfl, fun h => absurd h (by decide), Or.inl ⟨rfl, rfl⟩, thr_0 (by decide +kernel)⟩
def k237 : Code1 := [(0, .aload_n 0, 1), (1, .iconst 0, 1), (2, .putfield 64, 3), (5, .aload_n 0, 1), (6, .iload_n 1, 1), (7, .invokevirtual 495, 3), (10, .ifCond .ne 5, 3), (13, .iconst (-1), 1), (14, .ireturn, 1), (15, .aload_n 0, 1), (16, .getfield 51, 3), (19, .iload_n 1, 1), (20, .iaload, 1), (21, .istore_n 3, 1), (22, .aload_n 0, 1), (23, .getfield 27, 3), (26, .getfield 181, 3), (29, .iload_n 3, 1), (30, .iaload, 1), (31, .iconst (-1), 1), (32, .if_icmp .eq 28, 3), (35, .aload_n 0, 1), (36, .getfield 27, 3), (39, .getfield 210, 3), (42, .aload_n 0, 1), (43, .getfield 27, 3), (46, .getfield 181, 3), (49, .iload_n 3, 1), (50, .iaload, 1), (51, .iaload, 1), (52, .iconst 5, 1), (53, .if_icmp .ne 7, 3), (56, .iconst 1, 1), (57, .goto 4, 3), (60, .iconst 0, 1), (61, .istore 4, 2), (63, .iload_n 2, 1), (64, .tableswitch 100 0 4 #[36, 46, 73, 79, 98], 36), (100, .aload_n 0, 1), (101, .getfield 27, 3), (104, .getfield 210, 3), (107, .iload_n 3, 1), (108, .iaload, 1), (109, .ireturn, 1), (110, .aload_n 0, 1), (111, .getfield 27, 3), (114, .getfield 210, 3), (117, .iload_n 3, 1), (118, .iaload, 1), (119, .iconst 3, 1), (120, .if_icmp .le 15, 3), (123, .aload_n 0, 1), (124, .getfield 27, 3), (127, .getfield 184, 3), (130, .iload_n 3, 1), (131, .iaload, 1), (132, .goto 4, 3), (135, .iconst 0, 1), (136, .ireturn, 1), (137, .aload_n 0, 1), (138, .iload_n 3, 1), (139, .invokevirtual 498, 3), (142, .ireturn, 1), (143, .iload 4, 2), (145, .ifCond .eq 15, 3), (148, .aload_n 0, 1), (149, .getfield 27, 3), (152, .getfield 187, 3), (155, .iload_n 3, 1), (156, .iaload, 1), (157, .goto 4, 3), (160, .iconst (-1), 1), (161, .ireturn, 1), (162, .iload_n 3, 1), (163, .ireturn, 1), (164, .iconst (-1), 1), (165, .ireturn, 1)]
def X237 : MT := (k237, pl15, (some FieldType.int), false, [])
theorem k237_d : ∀ q ∈ k237, decode cX15_found q.1 = .ok q.2 := by decide +kernel
theorem X237_ok : CodeOK (Mof mE237) X237 := ⟨code_1 k237_d (by decide +kernel), rfl, fun h => absurd h (by decide), Or.inl ⟨rfl, rfl⟩, thr_0 (by decide +kernel)⟩
def k238 : Code1 := [(0, .aload_n 0, 1), (1, .iconst 0, 1), (2, .putfield 64, 3), (5, .aload_n 0, 1), (6, .iload_n 1, 1), (7, .invokevirtual 495, 3), (10, .ifCond .eq 38, 3), (13, .aload_n 0, 1), (14, .getfield 27, 3), (17, .getfield 210, 3), (20, .aload_n 0, 1), (21, .getfield 51, 3), (24, .iload_n 1, 1), (25, .iaload, 1), (26, .iaload, 1), (27, .iconst 3, 1), (28, .if_icmp .ne 20, 3), (31, .aload_n 0, 1), (32, .getfield 27, 3), (35, .getfield 192, 3), (38, .aload_n 0, 1), (39, .getfield 51, 3), (42, .iload_n 1, 1), (43, .iaload, 1), (44, .laload, 1), (45, .goto 4, 3), (48, .lconst 0, 1), (49, .lreturn, 1)]
def X238 : MT := (k238, pl15, (some FieldType.long), false, [])
theorem k238_d : ∀ q ∈ k238, decode cX15_number q.1 = .ok q.2 := by decide +kernel
theorem X238_ok : CodeOK (Mof mE238) X238 := ⟨code_1 k238_d (by decide +kernel), rfl, fun h => absurd h (by decide), Or.inl ⟨rfl, rfl⟩, thr_0 (by decide +kernel)⟩
def k239 : Code1 := [(0, .aload_n 0, 1), (1, .getfield 58, 3), (4, .aload_n 0, 1), (5, .getfield 501, 3), (8, .iload_n 1, 1), (9, .i2b, 1), (10, .bastore, 1), (11, .aload_n 0, 1), (12, .dup, 1), (13, .getfield 501, 3), (16, .iconst 1, 1), (17, .iadd, 1), (18, .putfield 501, 3), (21, .return_, 1)]
def X239 : MT := (k239, pl15, none, false, [])
theorem k239_d : ∀ q ∈ k239, decode cX15_put q.1 = .ok q.2 := by decide +kernel
theorem X239_ok : CodeOK (Mof mE239) X239 := ⟨code_1 k239_d (by decide +kernel), rfl, fun h => absurd h (by decide), Or.inl ⟨rfl, rfl⟩, thr_0 (by decide +kernel)⟩
def k240 : Code1 := [(0, .iconst 0, 1), (1, .istore_n 2, 1), (2, .iload_n 2, 1), (3, .aload_n 1, 1), (4, .invokevirtual 150, 3), (7, .if_icmp .ge 18, 3), (10, .aload_n 0, 1), (11, .aload_n 1, 1), (12, .iload_n 2, 1), (13, .invokevirtual 154, 3), (16, .invokevirtual 504, 3), (19, .iinc 2 1, 3), (22, .goto (-20), 3), (25, .return_, 1)]
def X240 : MT := (k240, pl15, none, false, [])
theorem k240_d : ∀ q ∈ k240, decode cX15_say q.1 = .ok q.2 := by decide +kernel
theorem X240_ok : CodeOK (Mof mE240) X240 := ⟨code_1 k240_d (by decide +kernel), rfl, fun h => absurd h (by decide), Or.inl ⟨rfl, rfl⟩, thr_0 (by decide +kernel)⟩
def k241 : Code1 := [(0, .lload_n 1, 1), (1, .lconst 0, 1), (2, .lcmp, 1), (3, .ifCond .ge 9, 3), (6, .aload_n 0, 1), (7, .bipush 45, 2), (9, .invokevirtual 504, 3), (12, .lload_n 1, 1), (13, .lconst 0, 1), (14, .lcmp, 1), (15, .ifCond .ge 8, 3), (18, .lload_n 1, 1), (19, .lneg, 1), (20, .goto 4, 3), (23, .lload_n 1, 1), (24, .lstore_n 3, 1), (25, .lconst 1, 1), (26, .lstore 5, 2), (28, .lload_n 3, 1), (29, .lload 5, 2), (31, .ldiv, 1), (32, .ldc2_w 507, 3), (35, .lcmp, 1), (36, .ifCond .le 14, 3), (39, .lload 5, 2), (41, .ldc2_w 140, 3), (44, .lmul, 1), (45, .lstore 5, 2), (47, .goto (-19), 3), (50, .lload 5, 2), (52, .lconst 0, 1), (53, .lcmp, 1), (54, .ifCond .le 31, 3), (57, .aload_n 0, 1), (58, .ldc2_w 142, 3), (61, .lload_n 3, 1), (62, .lload 5, 2), (64, .ldiv, 1), (65, .ldc2_w 140, 3), (68, .lrem, 1), (69, .ladd, 1), (70, .l2i, 1), (71, .invokevirtual 504, 3), (74, .lload 5, 2), (76, .ldc2_w 140, 3), (79, .ldiv, 1), (80, .lstore 5, 2), (82, .goto (-32), 3), (85, .return_, 1)]
def X241 : MT := (k241, pl15, none, false, [])
theorem k241_d : ∀ q ∈ k241, decode cX15_sayNumber q.1 = .ok q.2 := by decide +kernel
theorem X241_ok : CodeOK (Mof mE241) X241 := ⟨code_1 k241_d (by decide +kernel), rfl, fun h => absurd h (by decide), Or.inl ⟨rfl, rfl⟩, thr_0 (by decide +kernel)⟩
def k242 : Code1 := [(0, .iload_n 1, 1), (1, .iload_n 2, 1), (2, .if_icmp .eq 9, 3), (5, .iload_n 1, 1), (6, .bipush 92, 2), (8, .if_icmp .ne 17, 3), (11, .aload_n 0, 1), (12, .bipush 92, 2), (14, .invokevirtual 504, 3), (17, .aload_n 0, 1), (18, .iload_n 1, 1), (19, .invokevirtual 504, 3), (22, .goto 295, 3), (25, .iload_n 1, 1), (26, .bipush 32, 2), (28, .if_icmp .ge 138, 3), (31, .aload_n 0, 1), (32, .bipush 92, 2), (34, .invokevirtual 504, 3), (37, .iload_n 1, 1), (38, .bipush 8, 2), (40, .if_icmp .ne 8, 3), (43, .bipush 98, 2), (45, .goto 49, 3), (48, .iload_n 1, 1), (49, .bipush 9, 2), (51, .if_icmp .ne 8, 3), (54, .bipush 116, 2), (56, .goto 38, 3), (59, .iload_n 1, 1), (60, .bipush 10, 2), (62, .if_icmp .ne 8, 3), (65, .bipush 110, 2), (67, .goto 27, 3), (70, .iload_n 1, 1), (71, .bipush 12, 2), (73, .if_icmp .ne 8, 3), (76, .bipush 102, 2), (78, .goto 16, 3), (81, .iload_n 1, 1), (82, .bipush 13, 2), (84, .if_icmp .ne 8, 3), (87, .bipush 114, 2), (89, .goto 5, 3), (92, .bipush 117, 2), (94, .istore_n 3, 1), (95, .aload_n 0, 1), (96, .iload_n 3, 1), (97, .invokevirtual 504, 3), (100, .iload_n 3, 1), (101, .bipush 117, 2), (103, .if_icmp .eq 4, 3), (106, .return_, 1), (107, .aload_n 0, 1), (108, .bipush 48, 2), (110, .invokevirtual 504, 3), (113, .aload_n 0, 1), (114, .bipush 48, 2), (116, .invokevirtual 504, 3), (119, .aload_n 0, 1), (120, .bipush 48, 2), (122, .iload_n 1, 1), (123, .bipush 16, 2), (125, .idiv, 1), (126, .iadd, 1), (127, .invokevirtual 504, 3), (130, .aload_n 0, 1), (131, .iload_n 1, 1), (132, .bipush 16, 2), (134, .irem, 1), (135, .bipush 10, 2), (137, .if_icmp .ge 13, 3), (140, .bipush 48, 2), (142, .iload_n 1, 1), (143, .bipush 16, 2), (145, .irem, 1), (146, .iadd, 1), (147, .goto 13, 3), (150, .bipush 97, 2), (152, .iload_n 1, 1), (153, .bipush 16, 2), (155, .irem, 1), (156, .iadd, 1), (157, .bipush 10, 2), (159, .isub, 1), (160, .invokevirtual 504, 3), (163, .goto 154, 3), (166, .iload_n 1, 1), (167, .sipush 128, 3), (170, .if_icmp .ge 11, 3), (173, .aload_n 0, 1), (174, .iload_n 1, 1), (175, .invokevirtual 504, 3), (178, .goto 139, 3), (181, .iload_n 1, 1), (182, .sipush 2048, 3), (185, .if_icmp .ge 30, 3), (188, .aload_n 0, 1), (189, .sipush 192, 3), (192, .iload_n 1, 1), (193, .bipush 6, 2), (195, .ishr, 1), (196, .ior, 1), (197, .invokevirtual 504, 3), (200, .aload_n 0, 1), (201, .sipush 128, 3), (204, .iload_n 1, 1), (205, .bipush 63, 2), (207, .iand, 1), (208, .ior, 1), (209, .invokevirtual 504, 3), (212, .goto 105, 3), (215, .iload_n 1, 1), (216, .ldc 101, 2), (218, .if_icmp .ge 45, 3), (221, .aload_n 0, 1), (222, .sipush 224, 3), (225, .iload_n 1, 1), (226, .bipush 12, 2), (228, .ishr, 1), (229, .ior, 1), (230, .invokevirtual 504, 3), (233, .aload_n 0, 1), (234, .sipush 128, 3), (237, .iload_n 1, 1), (238, .bipush 6, 2), (240, .ishr, 1), (241, .bipush 63, 2), (243, .iand, 1), (244, .ior, 1), (245, .invokevirtual 504, 3), (248, .aload_n 0, 1), (249, .sipush 128, 3), (252, .iload_n 1, 1), (253, .bipush 63, 2), (255, .iand, 1), (256, .ior, 1), (257, .invokevirtual 504, 3), (260, .goto 57, 3), (263, .aload_n 0, 1), (264, .sipush 240, 3), (267, .iload_n 1, 1), (268, .bipush 18, 2), (270, .ishr, 1), (271, .ior, 1), (272, .invokevirtual 504, 3), (275, .aload_n 0, 1), (276, .sipush 128, 3), (279, .iload_n 1, 1), (280, .bipush 12, 2), (282, .ishr, 1), (283, .bipush 63, 2), (285, .iand, 1), (286, .ior, 1), (287, .invokevirtual 504, 3), (290, .aload_n 0, 1), (291, .sipush 128, 3), (294, .iload_n 1, 1), (295, .bipush 6, 2), (297, .ishr, 1), (298, .bipush 63, 2), (300, .iand, 1), (301, .ior, 1), (302, .invokevirtual 504, 3), (305, .aload_n 0, 1), (306, .sipush 128, 3), (309, .iload_n 1, 1), (310, .bipush 63, 2), (312, .iand, 1), (313, .ior, 1), (314, .invokevirtual 504, 3), (317, .return_, 1)]
def X242 : MT := (k242, pl15, none, false, [])
theorem k242_d : ∀ q ∈ k242, decode cX15_sayCharacter q.1 = .ok q.2 := by decide +kernel
theorem X242_ok : CodeOK (Mof mE242) X242 := ⟨code_1 k242_d (by decide +kernel), rfl, fun h => absurd h (by decide), Or.inl ⟨rfl, rfl⟩, thr_0 (by decide +kernel)⟩
def k243 : Code1 := [(0, .aload_n 0, 1), (1, .iload_n 3, 1), (2, .invokevirtual 504, 3), (5, .iconst 0, 1), (6, .istore 4, 2), (8, .iload 4, 2), (10, .iload_n 2, 1), (11, .if_icmp .ge 23, 3), (14, .aload_n 0, 1), (15, .aload_n 0, 1), (16, .getfield 20, 3), (19, .iload_n 1, 1), (20, .iload 4, 2), (22, .iadd, 1), (23, .iaload, 1), (24, .iload_n 3, 1), (25, .invokevirtual 509, 3), (28, .iinc 4 1, 3), (31, .goto (-23), 3), (34, .aload_n 0, 1), (35, .iload_n 3, 1), (36, .invokevirtual 504, 3), (39, .return_, 1)]
def X243 : MT := (k243, pl15, none, false, [])
theorem k243_d : ∀ q ∈ k243, decode cX15_sayText q.1 = .ok q.2 := by decide +kernel
theorem X243_ok : CodeOK (Mof mE243) X243 := ⟨code_1 k243_d (by decide +kernel), rfl, fun h => absurd h (by decide), Or.inl ⟨rfl, rfl⟩, thr_0 (by decide +kernel)⟩
def k244 : Code1 := [(0, .aload_n 0, 1), (1, .iconst 0, 1), (2, .putfield 64, 3), (5, .aload_n 0, 1), (6, .iload_n 1, 1), (7, .invokevirtual 495, 3), (10, .ifCond .ne 5, 3), (13, .iconst (-1), 1), (14, .ireturn, 1), (15, .aload_n 0, 1), (16, .iconst 0, 1), (17, .putfield 501, 3), (20, .aload_n 0, 1), (21, .bipush 36, 2), (23, .invokevirtual 504, 3), (26, .iconst 0, 1), (27, .istore_n 2, 1), (28, .aload_n 0, 1), (29, .getfield 51, 3), (32, .iload_n 1, 1), (33, .iaload, 1), (34, .istore_n 3, 1), (35, .aload_n 0, 1), (36, .getfield 27, 3), (39, .getfield 181, 3), (42, .iload_n 3, 1), (43, .iaload, 1), (44, .iconst (-1), 1), (45, .if_icmp .eq 26, 3), (48, .aload_n 0, 1), (49, .getfield 61, 3), (52, .iload_n 2, 1), (53, .iload_n 3, 1), (54, .iastore, 1), (55, .iinc 2 1, 3), (58, .aload_n 0, 1), (59, .getfield 27, 3), (62, .getfield 181, 3), (65, .iload_n 3, 1), (66, .iaload, 1), (67, .istore_n 3, 1), (68, .goto (-33), 3), (71, .iload_n 2, 1), (72, .iconst 1, 1), (73, .isub, 1), (74, .istore_n 3, 1), (75, .iload_n 3, 1), (76, .ifCond .lt 103, 3), (79, .aload_n 0, 1), (80, .bipush 91, 2), (82, .invokevirtual 504, 3), (85, .aload_n 0, 1), (86, .getfield 27, 3), (89, .getfield 210, 3), (92, .aload_n 0, 1), (93, .getfield 27, 3), (96, .getfield 181, 3), (99, .aload_n 0, 1), (100, .getfield 61, 3), (103, .iload_n 3, 1), (104, .iaload, 1), (105, .iaload, 1), (106, .iaload, 1), (107, .iconst 5, 1), (108, .if_icmp .ne 25, 3), (111, .aload_n 0, 1), (112, .aload_n 0, 1), (113, .getfield 27, 3), (116, .getfield 187, 3), (119, .aload_n 0, 1), (120, .getfield 61, 3), (123, .iload_n 3, 1), (124, .iaload, 1), (125, .iaload, 1), (126, .i2l, 1), (127, .invokevirtual 512, 3), (130, .goto 37, 3), (133, .aload_n 0, 1), (134, .aload_n 0, 1), (135, .getfield 27, 3), (138, .getfield 198, 3), (141, .aload_n 0, 1), (142, .getfield 61, 3), (145, .iload_n 3, 1), (146, .iaload, 1), (147, .iaload, 1), (148, .aload_n 0, 1), (149, .getfield 27, 3), (152, .getfield 201, 3), (155, .aload_n 0, 1), (156, .getfield 61, 3), (159, .iload_n 3, 1), (160, .iaload, 1), (161, .iaload, 1), (162, .bipush 39, 2), (164, .invokevirtual 515, 3), (167, .aload_n 0, 1), (168, .bipush 93, 2), (170, .invokevirtual 504, 3), (173, .iinc 3 (-1), 3), (176, .goto (-101), 3), (179, .aload_n 0, 1), (180, .getfield 501, 3), (183, .ireturn, 1)]
def X244 : MT := (k244, pl15, (some FieldType.int), false, [])
theorem k244_d : ∀ q ∈ k244, decode cX15_path_ q.1 = .ok q.2 := by decide +kernel
theorem X244_ok : CodeOK (Mof mE244) X244 := ⟨code_1 k244_d (by decide +kernel), rfl, fun h => absurd h (by decide), Or.inl ⟨rfl, rfl⟩, thr_0 (by decide +kernel)⟩
def k245 : Code1 := [(0, .aload_n 0, 1), (1, .getfield 27, 3), (4, .getfield 210, 3), (7, .iload_n 1, 1), (8, .iaload, 1), (9, .tableswitch 95 0 4 #[35, 42, 49, 56, 70], 35), (44, .aload_n 0, 1), (45, .ldc 204, 2), (47, .invokevirtual 518, 3), (50, .return_, 1), (51, .aload_n 0, 1), (52, .ldc 212, 2), (54, .invokevirtual 518, 3), (57, .return_, 1), (58, .aload_n 0, 1), (59, .ldc 214, 2), (61, .invokevirtual 518, 3), (64, .return_, 1), (65, .aload_n 0, 1), (66, .aload_n 0, 1), (67, .getfield 27, 3), (70, .getfield 192, 3), (73, .iload_n 1, 1), (74, .laload, 1), (75, .invokevirtual 512, 3), (78, .return_, 1), (79, .aload_n 0, 1), (80, .aload_n 0, 1), (81, .getfield 27, 3), (84, .getfield 195, 3), (87, .iload_n 1, 1), (88, .iaload, 1), (89, .aload_n 0, 1), (90, .getfield 27, 3), (93, .getfield 184, 3), (96, .iload_n 1, 1), (97, .iaload, 1), (98, .bipush 34, 2), (100, .invokevirtual 515, 3), (103, .return_, 1), (104, .aload_n 0, 1), (105, .getfield 27, 3), (108, .getfield 210, 3), (111, .iload_n 1, 1), (112, .iaload, 1), (113, .iconst 5, 1), (114, .if_icmp .ne 7, 3), (117, .iconst 1, 1), (118, .goto 4, 3), (121, .iconst 0, 1), (122, .istore_n 2, 1), (123, .aload_n 0, 1), (124, .iload_n 2, 1), (125, .ifCond .eq 8, 3), (128, .bipush 91, 2), (130, .goto 5, 3), (133, .bipush 123, 2), (135, .invokevirtual 504, 3), (138, .aload_n 0, 1), (139, .getfield 27, 3), (142, .getfield 172, 3), (145, .iload_n 1, 1), (146, .iaload, 1), (147, .istore_n 3, 1), (148, .iload_n 3, 1), (149, .iconst (-1), 1), (150, .if_icmp .eq 74, 3), (153, .iload_n 3, 1), (154, .aload_n 0, 1), (155, .getfield 27, 3), (158, .getfield 172, 3), (161, .iload_n 1, 1), (162, .iaload, 1), (163, .if_icmp .eq 9, 3), (166, .aload_n 0, 1), (167, .bipush 44, 2), (169, .invokevirtual 504, 3), (172, .iload_n 2, 1), (173, .ifCond .ne 33, 3), (176, .aload_n 0, 1), (177, .aload_n 0, 1), (178, .getfield 27, 3), (181, .getfield 198, 3), (184, .iload_n 3, 1), (185, .iaload, 1), (186, .aload_n 0, 1), (187, .getfield 27, 3), (190, .getfield 201, 3), (193, .iload_n 3, 1), (194, .iaload, 1), (195, .bipush 34, 2), (197, .invokevirtual 515, 3), (200, .aload_n 0, 1), (201, .bipush 58, 2), (203, .invokevirtual 504, 3), (206, .aload_n 0, 1), (207, .iload_n 3, 1), (208, .invokevirtual 521, 3), (211, .aload_n 0, 1), (212, .getfield 27, 3), (215, .getfield 178, 3), (218, .iload_n 3, 1), (219, .iaload, 1), (220, .istore_n 3, 1), (221, .goto (-73), 3), (224, .aload_n 0, 1), (225, .iload_n 2, 1), (226, .ifCond .eq 8, 3), (229, .bipush 93, 2), (231, .goto 5, 3), (234, .bipush 125, 2), (236, .invokevirtual 504, 3), (239, .return_, 1)]
def X245 : MT := (k245, pl15, none, false, [])
theorem k245_d : ∀ q ∈ k245, decode cX15_sayValue q.1 = .ok q.2 := by decide +kernel
theorem X245_ok : CodeOK (Mof mE245) X245 := ⟨code_1 k245_d (by decide +kernel), rfl, fun h => absurd h (by decide), Or.inl ⟨rfl, rfl⟩, thr_0 (by decide +kernel)⟩
def k246 : Code1 := [(0, .aload_n 0, 1), (1, .iconst 0, 1), (2, .putfield 64, 3), (5, .aload_n 0, 1), (6, .iload_n 1, 1), (7, .invokevirtual 495, 3), (10, .ifCond .ne 5, 3), (13, .iconst (-1), 1), (14, .ireturn, 1), (15, .aload_n 0, 1), (16, .iconst 0, 1), (17, .putfield 501, 3), (20, .aload_n 0, 1), (21, .aload_n 0, 1), (22, .getfield 51, 3), (25, .iload_n 1, 1), (26, .iaload, 1), (27, .invokevirtual 521, 3), (30, .aload_n 0, 1), (31, .getfield 501, 3), (34, .ireturn, 1)]
def X246 : MT := (k246, pl15, (some FieldType.int), false, [])
theorem k246_d : ∀ q ∈ k246, decode cX15_text q.1 = .ok q.2 := by decide +kernel
theorem X246_ok : CodeOK (Mof mE246) X246 := ⟨code_1 k246_d (by decide +kernel), rfl, fun h => absurd h (by decide), Or.inl ⟨rfl, rfl⟩, thr_0 (by decide +kernel)⟩
def k247 : Code1 := [(0, .aload_n 0, 1), (1, .iload_n 1, 1), (2, .ifCond .lt 11, 3), (5, .iload_n 1, 1), (6, .aload_n 0, 1), (7, .getfield 501, 3), (10, .if_icmp .lt 7, 3), (13, .iconst 1, 1), (14, .goto 4, 3), (17, .iconst 0, 1), (18, .putfield 64, 3), (21, .aload_n 0, 1), (22, .getfield 64, 3), (25, .ifCond .le 7, 3), (28, .iconst 0, 1), (29, .goto 13, 3), (32, .aload_n 0, 1), (33, .getfield 58, 3), (36, .iload_n 1, 1), (37, .baload, 1), (38, .sipush 255, 3), (41, .iand, 1), (42, .ireturn, 1)]
def X247 : MT := (k247, pl15, (some FieldType.int), false, [])
theorem k247_d : ∀ q ∈ k247, decode cX15_out q.1 = .ok q.2 := by decide +kernel
theorem X247_ok : CodeOK (Mof mE247) X247 := ⟨code_1 k247_d (by decide +kernel), rfl, fun h => absurd h (by decide), Or.inl ⟨rfl, rfl⟩, thr_0 (by decide +kernel)⟩
def k248 : Code1 := [(0, .aload_n 0, 1), (1, .iconst 0, 1), (2, .putfield 64, 3), (5, .iload_n 1, 1), (6, .tableswitch 150 0 7 #[46, 65, 84, 103, 130, 135, 140, 145], 46), (52, .aload_n 0, 1), (53, .getfield 246, 3), (56, .ifCond .eq 13, 3), (59, .aload_n 0, 1), (60, .getfield 27, 3), (63, .getfield 161, 3), (66, .goto 4, 3), (69, .iconst (-1), 1), (70, .ireturn, 1), (71, .aload_n 0, 1), (72, .getfield 246, 3), (75, .ifCond .eq 13, 3), (78, .aload_n 0, 1), (79, .getfield 27, 3), (82, .getfield 164, 3), (85, .goto 4, 3), (88, .iconst (-1), 1), (89, .ireturn, 1), (90, .aload_n 0, 1), (91, .getfield 402, 3), (94, .ifCond .eq 13, 3), (97, .aload_n 0, 1), (98, .getfield 44, 3), (101, .getfield 320, 3), (104, .goto 4, 3), (107, .iconst (-1), 1), (108, .ireturn, 1), (109, .aload_n 0, 1), (110, .getfield 402, 3), (113, .ifCond .eq 21, 3), (116, .aload_n 0, 1), (117, .getfield 44, 3), (120, .getfield 399, 3), (123, .ifCond .eq 7, 3), (126, .iconst 1, 1), (127, .goto 8, 3), (130, .iconst 0, 1), (131, .goto 4, 3), (134, .iconst (-1), 1), (135, .ireturn, 1), (136, .aload_n 0, 1), (137, .getfield 405, 3), (140, .ireturn, 1), (141, .aload_n 0, 1), (142, .getfield 249, 3), (145, .ireturn, 1), (146, .aload_n 0, 1), (147, .getfield 73, 3), (150, .ireturn, 1), (151, .aload_n 0, 1), (152, .getfield 501, 3), (155, .ireturn, 1), (156, .iconst (-1), 1), (157, .ireturn, 1)]
def X248 : MT := (k248, pl15, (some FieldType.int), false, [])
theorem k248_d : ∀ q ∈ k248, decode cX15_about q.1 = .ok q.2 := by decide +kernel
theorem X248_ok : CodeOK (Mof mE248) X248 := ⟨code_1 k248_d (by decide +kernel), rfl, fun h => absurd h (by decide), Or.inl ⟨rfl, rfl⟩, thr_0 (by decide +kernel)⟩
def k281 : Code1 := [(0, .aload_n 2, 1), (1, .iconst 0, 1), (2, .aload_n 0, 1), (3, .iload_n 1, 1), (4, .invokevirtual 7, 3), (7, .i2l, 1), (8, .lastore, 1), (9, .goto 6, 3), (12, .astore_n 3, 1), (13, .iconst 1, 1), (14, .ireturn, 1), (15, .iconst 0, 1), (16, .ireturn, 1)]
def X281 : MT := (k281, pl16, (some FieldType.int), false, [(0, 9, 12, 202)])
theorem k281_d : ∀ q ∈ k281, decode cL_out q.1 = .ok q.2 := by decide +kernel
theorem X281_ok : CodeOK (Mof mE281) X281 := ⟨code_1 k281_d (by decide +kernel), rfl, fun h => absurd h (by decide), Or.inr ⟨0, 9, 12, 13, 202, rfl, rfl, by decide, Or.inr ⟨2, by decide, rfl, gw (tw6 (i := 48) rfl) rfl⟩⟩, thr_0 (by decide +kernel)⟩
def k282 : Code1 := [(0, .aload_n 0, 1), (1, .aload_n 1, 1), (2, .aload_n 2, 1), (3, .iload_n 3, 1), (4, .iload 4, 2), (6, .invokespecial 16, 3), (9, .return_, 1)]
def X282 : MT := (k282, pl17, none, true, [])
theorem k282_d : ∀ q ∈ k282, decode cT_rt q.1 = .ok q.2 := by decide +kernel
theorem X282_ok : CodeOK (Mof mE282) X282 := ⟨code_1 k282_d (by decide +kernel), rfl, fun _ => rfl, Or.inl ⟨rfl, rfl⟩, thr_0 (by decide +kernel)⟩
def k283 : Code1 := [(0, .aload_n 0, 1), (1, .aload_n 1, 1), (2, .aload_n 2, 1), (3, .iload_n 3, 1), (4, .iload 4, 2), (6, .invokespecial 16, 3), (9, .return_, 1)]
def X283 : MT := (k283, pl18, none, true, [])
theorem k283_d : ∀ q ∈ k283, decode cT_ex q.1 = .ok q.2 := by decide +kernel
theorem X283_ok : CodeOK (Mof mE283) X283 := ⟨code_1 k283_d (by decide +kernel), rfl, fun _ => rfl, Or.inl ⟨rfl, rfl⟩, thr_0 (by decide +kernel)⟩
def k284 : Code1 := [(0, .aload_n 0, 1), (1, .invokespecial 1, 3), (4, .aload_n 0, 1), (5, .aload_n 0, 1), (6, .putfield 7, 3), (9, .aload_n 0, 1), (10, .getstatic 13, 3), (13, .putfield 17, 3), (16, .aload_n 0, 1), (17, .getstatic 20, 3), (20, .putfield 24, 3), (23, .iload 4, 2), (25, .ifCond .eq 11, 3), (28, .aload_n 0, 1), (29, .invokevirtual 27, 3), (32, .pop, 1), (33, .goto 8, 3), (36, .aload_n 0, 1), (37, .aconst_null, 1), (38, .putfield 17, 3), (41, .aload_n 0, 1), (42, .aload_n 1, 1), (43, .putfield 31, 3), (46, .aload_n 0, 1), (47, .aload_n 2, 1), (48, .putfield 7, 3), (51, .iload_n 3, 1), (52, .ifCond .ne 8, 3), (55, .aload_n 0, 1), (56, .aconst_null, 1), (57, .putfield 24, 3), (60, .return_, 1)]
def X284 : MT := (k284, pl19, none, true, [])
theorem k284_d : ∀ q ∈ k284, decode cT_th q.1 = .ok q.2 := by decide +kernel
theorem X284_ok : CodeOK (Mof mE284) X284 := ⟨code_1 k284_d (by decide +kernel), rfl, fun _ => rfl, Or.inl ⟨rfl, rfl⟩, thr_0 (by decide +kernel)⟩
end
section
/-! A METHOD'S CONTRACT OUT OF ITS WEAKEST PRECONDITION -/
def largs : Nat → List SV → LV
  | _, [] => []
  | i, v :: vs => (i, v) :: largs (if svC v = 2 then i + 2 else i + 1) vs
theorem vv_cat (v : SV) : (vv v).category = svC v := by
  rcases v with x | x | x
  · rfl
  · rfl
  · cases x <;> rfl
theorem largs_map : ∀ (as : List SV) (i : Nat), lv_args i (as.map vv) = (largs i as).map fv
  | [], _ => rfl
  | v :: vs, i => by
    have h := largs_map vs (if svC v = 2 then i + 2 else i + 1)
    simp only [List.map_cons, lv_args, largs, vv_cat, h]
    rfl
theorem lg_sl_len : ∀ (as : List SV), (lg_sl (as.map vv)).length = wgt as
  | [] => rfl
  | v :: vs => by
    have h := lg_sl_len vs
    have e := vv_cat v
    by_cases hc : svC v = 2
    · rw [hc] at e
      simp only [List.map_cons, lg_sl, List.flatMap_cons, List.length_append, wgt, List.sum_cons] at h ⊢
      rw [h, if_pos e, hc]; rfl
    · have h1 : svC v = 1 := by
        rcases v with x | x | x
        · rfl
        · exact absurd rfl hc
        · rfl
      rw [h1] at e
      simp only [List.map_cons, lg_sl, List.flatMap_cons, List.length_append, wgt, List.sum_cons] at h ⊢
      rw [h, if_neg (by rw [e]; decide), h1]; rfl
/-- method j of the table, its code and its pool -/
def MO (j : Nat) (q : ME) (X : MT) : Prop := mtab[j]? = some q ∧ plainName q.1.cls = true ∧ xb_Is q.1 q.2.1 q.2.2.1 q.2.2.2.1 q.2.2.2.2.1 q.2.2.2.2.2 ∧ PoolOK q.1.cls X.2.1 mtab mt ∧ CodeOK (Mof q) X
def KI (Inv : Nat → Nat → LV → List SV → Ht → Prop) (n pc : Nat) (lv : LV) (st : List SV) (t : Ht) : Prop := ∃ lv', (∀ q ∈ lv', q ∈ lv) ∧ Inv n pc lv' st t
section CA
variable {C : Cx} {d j : Nat} {q : ME} {X : MT} {as : List SV} {t : Ht} {Post : OutT → Ht → Prop} {cut : List Nat}
theorem WG.less {M : Mi} {t0 : Ht} {Q : OutT → Ht → Prop} {pc : Nat} {lv lv' : LV} {st : List SV} (h : WG C M d t0 Q pc lv' st t) (hs : ∀ q ∈ lv', q ∈ lv) : WG C M d t0 Q pc lv st t := by
  obtain ⟨o, t', h1, h2, h3, h4⟩ := h
  refine ⟨o, t', h1, h2, h3, ?_⟩
  intro p e s m args below meth c H locs ls hc hR0 hR hn hu hq hl
  exact h4 p e s m args below meth c H locs ls hc hR0 hR hn hu hq (lv_less hl (fun z hz => by
    obtain ⟨w, hw, rfl⟩ := List.mem_map.mp hz
    exact List.mem_map.mpr ⟨w, hs w hw, rfl⟩))
theorem cal_of {Kc : Nat → LV → List SV → Ht → Prop} {N : Nat} (h : MO j q X) (hsz : wgt as ≤ q.2.2.2.1) (hKc : ∀ pc lv st t', pc ∈ cut → Kc pc lv st t' → WG C (Mof q) (d + 1) t Post pc lv st t')
    (hw : wpc (CalG C mtab d) mt (cS C) (cG C) none X Post cut Kc N 0 (largs 0 as) [] t) : CalG C mtab (d + 1) j as t Post := by
  obtain ⟨h1, h2, h3, h4, h5⟩ := h
  obtain ⟨o, t1, a1, a2, a3, a4⟩ := wpc_sound (M := Mof q) (t0 := t) h4 h5 (fun _ hz => by cases hz) hKc N 0 _ _ _ hw
  rw [← largs_map] at a4
  exact ⟨q, h1, o, t1, a1, a2, a3, CM_of h2 h3 (by rw [lg_sl_len]; exact hsz) a4⟩
theorem cal_ofN {N : Nat} (h : MO j q X) (hsz : wgt as ≤ q.2.2.2.1) (hw : wpc (CalG C mtab d) mt (cS C) (cG C) none X Post [] (fun _ _ _ _ => False) N 0 (largs 0 as) [] t) : CalG C mtab (d + 1) j as t Post :=
  cal_of h hsz (fun _ _ _ _ hz => by cases hz) hw
theorem wg_loop {M : Mi} {t0 : Ht} {Q : OutT → Ht → Prop} {sc : Option (Nat × Nat × (Nat → Int32))} {N : Nat} {Inv : Nat → Nat → LV → List SV → Ht → Prop} (hP : PoolOK M.1 X.2.1 mtab mt) (hC : CodeOK M X) (hsc : ∀ s9, sc = some s9 → s9 = cX C)
    (hstep : ∀ n pc lv st t', pc ∈ cut → Inv n pc lv st t' → wpc (CalG C mtab d) mt (cS C) (cG C) sc X Q cut (fun pc lv st t'' => ∃ k, k < n ∧ KI Inv k pc lv st t'') N pc lv st t') :
    ∀ (n pc : Nat) (lv : LV) (st : List SV) (t' : Ht), pc ∈ cut → Inv n pc lv st t' → WG C M (d + 1) t0 Q pc lv st t' := by
  intro n
  induction n using Nat.strongRecOn with
  | _ n ih =>
    intro pc lv st t' hpc hi
    refine wpc_sound hP hC hsc ?_ N pc lv st t' (hstep n pc lv st t' hpc hi)
    rintro pc2 lv2 st2 t2 hm ⟨k, hk, lv', hs, hi2⟩
    exact WG.less (ih k hk pc2 lv' st2 t2 hm hi2) hs
theorem cal_loop {N N' : Nat} (Inv : Nat → Nat → LV → List SV → Ht → Prop) (h : MO j q X) (hsz : wgt as ≤ q.2.2.2.1)
    (hw : wpc (CalG C mtab d) mt (cS C) (cG C) none X Post cut (fun pc lv st t'' => ∃ k, KI Inv k pc lv st t'') N 0 (largs 0 as) [] t)
    (hstep : ∀ n pc lv st t', pc ∈ cut → Inv n pc lv st t' → wpc (CalG C mtab d) mt (cS C) (cG C) none X Post cut (fun pc lv st t'' => ∃ k, k < n ∧ KI Inv k pc lv st t'') N' pc lv st t') : CalG C mtab (d + 1) j as t Post := by
  refine cal_of h hsz ?_ hw
  rintro pc lv st t' hm ⟨k, lv', hs, hi⟩
  exact WG.less (wg_loop (M := Mof q) h.2.2.2.1 h.2.2.2.2 (fun _ hz => by cases hz) hstep k pc lv' st t' hm hi) hs
end CA
/-! THE TYPED HEAP, READ -/
theorem ht : (∀ t a k x, tN (sI t a k x) = tN t) ∧ (∀ t a k x, tU (sI t a k x) = tU t) ∧ (∀ t a k x, tK (sI t a k x) = tK t) ∧ (∀ t a k x, tL (sI t a k x) = tL t) ∧ (∀ t a k x, tJ (sI t a k x) = tJ t) ∧ (∀ t a k x, tR (sI t a k x) = tR t) ∧
    (∀ t a k x, tN (sJ t a k x) = tN t) ∧ (∀ t a k x, tU (sJ t a k x) = tU t) ∧ (∀ t a k x, tK (sJ t a k x) = tK t) ∧ (∀ t a k x, tL (sJ t a k x) = tL t) ∧ (∀ t a k x, tI (sJ t a k x) = tI t) ∧ (∀ t a k x, tR (sJ t a k x) = tR t) ∧
    (∀ t a k x, tN (sR t a k x) = tN t) ∧ (∀ t a k x, tU (sR t a k x) = tU t) ∧ (∀ t a k x, tK (sR t a k x) = tK t) ∧ (∀ t a k x, tL (sR t a k x) = tL t) ∧ (∀ t a k x, tI (sR t a k x) = tI t) ∧ (∀ t a k x, tJ (sR t a k x) = tJ t) ∧
    (∀ t a k x b j, tI (sI t a k x) b j = if b = a ∧ j = k then x else tI t b j) ∧ (∀ t a k x b j, tJ (sJ t a k x) b j = if b = a ∧ j = k then x else tJ t b j) ∧ (∀ t a k x b j, tR (sR t a k x) b j = if b = a ∧ j = k then x else tR t b j) ∧
    (∀ t kd l u, tN (tNew t kd l u) = tN t + 1) ∧ (∀ t kd l u, tU (tNew t kd l u) = tU t + u) ∧ (∀ t kd l u b, tK (tNew t kd l u) b = if b = tN t then kd else tK t b) ∧ (∀ t kd l u b, tL (tNew t kd l u) b = if b = tN t then l else tL t b) ∧
    (∀ t kd l u b j, tI (tNew t kd l u) b j = if b = tN t then 0 else tI t b j) ∧ (∀ t kd l u b j, tJ (tNew t kd l u) b j = if b = tN t then 0 else tJ t b j) ∧ (∀ t kd l u b j, tR (tNew t kd l u) b j = if b = tN t then none else tR t b j) := by
  refine ⟨fun _ _ _ _ => rfl, fun _ _ _ _ => rfl, fun _ _ _ _ => rfl, fun _ _ _ _ => rfl, fun _ _ _ _ => rfl, fun _ _ _ _ => rfl, fun _ _ _ _ => rfl, fun _ _ _ _ => rfl, fun _ _ _ _ => rfl, fun _ _ _ _ => rfl, fun _ _ _ _ => rfl, fun _ _ _ _ => rfl, fun _ _ _ _ => rfl, fun _ _ _ _ => rfl, fun _ _ _ _ => rfl, fun _ _ _ _ => rfl, fun _ _ _ _ => rfl, fun _ _ _ _ => rfl,
    fun _ _ _ _ _ _ => rfl, fun _ _ _ _ _ _ => rfl, fun _ _ _ _ _ _ => rfl, fun _ _ _ _ => rfl, fun _ _ _ _ => rfl, fun _ _ _ _ _ => rfl, fun _ _ _ _ _ => rfl, fun t kd l u b j => ?_, fun t kd l u b j => ?_, fun t kd l u b j => ?_⟩
  · show up1 (tI t) (tN t) (fun _ => 0) b j = _; unfold up1; split <;> rfl
  · show up1 (tJ t) (tN t) (fun _ => 0) b j = _; unfold up1; split <;> rfl
  · show up1 (tR t) (tN t) (fun _ => none) b j = _; unfold up1; split <;> rfl
end
section
/-! LOOPS: at each head the values of the locals, by a shape (number, 0: int, 1: long, 2: reference) -/
def endL (vs : List SV) (P : Prop) : Prop := match vs with
  | [] => P
  | _ => False
theorem endL_of {vs : List SV} {P : Prop} (h : endL vs P) : vs = [] ∧ P := by
  cases vs with
  | nil => exact ⟨rfl, h⟩
  | cons _ _ => exact h.elim
def svT : SV → Nat
  | .inl _ => 0
  | .inr (.inl _) => 1
  | .inr (.inr _) => 2
def col : List (Nat × Nat) → LV → (List SV → Prop) → Prop
  | [], _, f => f []
  | (i, ty) :: r, lv, f => match lv.lookup i with
    | some v => gd (svT v == ty) (col r lv (fun vs => f (v :: vs)))
    | none => False
theorem col_of : ∀ (sh : List (Nat × Nat)) {lv : LV} {f : List SV → Prop}, col sh lv f → ∃ vs, f vs ∧ ∀ q ∈ (sh.map Prod.fst).zip vs, q ∈ lv
  | [], _, _, h => ⟨[], h, fun _ hq => by cases hq⟩
  | (i, ty) :: r, lv, f, h => by
    unfold col at h
    cases hv : lv.lookup i with
    | none => rw [hv] at h; exact h.elim
    | some v =>
      rw [hv] at h
      obtain ⟨-, h⟩ := gd_of h
      obtain ⟨vs, h1, h2⟩ := col_of r h
      refine ⟨v :: vs, h1, fun q hq => ?_⟩
      rcases List.mem_cons.mp hq with rfl | hq
      · exact lk_mem hv
      · exact h2 q hq
def HDs (shapes : List (Nat × List (Nat × Nat))) (pc : Nat) (lv : LV) (st : List SV) (f : List SV → Prop) : Prop := match st with
  | [] => match shapes.lookup pc with
    | some sh => col sh lv f
    | none => False
  | _ => False
def zipS (shapes : List (Nat × List (Nat × Nat))) (pc : Nat) (vs : List SV) : LV := match shapes.lookup pc with
  | some sh => (sh.map Prod.fst).zip vs
  | none => []
theorem HDs_of {shapes : List (Nat × List (Nat × Nat))} {pc : Nat} {lv : LV} {st : List SV} {f : List SV → Prop} (h : HDs shapes pc lv st f) : st = [] ∧ ∃ vs, f vs ∧ ∀ q ∈ zipS shapes pc vs, q ∈ lv := by
  cases st with
  | cons _ _ => exact h.elim
  | nil =>
    refine ⟨rfl, ?_⟩
    unfold HDs at h
    unfold zipS
    cases hs : shapes.lookup pc with
    | none => rw [hs] at h; exact h.elim
    | some sh => rw [hs] at h; exact col_of sh h
section CH
variable {C : Cx} {d j : Nat} {q : ME} {X : MT} {as : List SV} {t : Ht} {Post : OutT → Ht → Prop}
theorem wg_heads {M : Mi} {t0 : Ht} {Q : OutT → Ht → Prop} {sc : Option (Nat × Nat × (Nat → Int32))} {N : Nat} (shapes : List (Nat × List (Nat × Nat))) (J : Nat → Nat → List SV → Ht → Prop) (hP : PoolOK M.1 X.2.1 mtab mt) (hC : CodeOK M X) (hsc : ∀ s9, sc = some s9 → s9 = cX C)
    (hstep : ∀ n pc vs t', pc ∈ shapes.map Prod.fst → J n pc vs t' → wpc (CalG C mtab d) mt (cS C) (cG C) sc X Q (shapes.map Prod.fst) (fun pc lv st t'' => HDs shapes pc lv st (fun vs => ∃ k, k < n ∧ J k pc vs t'')) N pc (zipS shapes pc vs) [] t') :
    ∀ (n pc : Nat) (vs : List SV) (t' : Ht), pc ∈ shapes.map Prod.fst → J n pc vs t' → WG C M (d + 1) t0 Q pc (zipS shapes pc vs) [] t' := by
  intro n
  induction n using Nat.strongRecOn with
  | _ n ih =>
    intro pc vs t' hpc hi
    refine wpc_sound hP hC hsc ?_ N pc _ _ t' (hstep n pc vs t' hpc hi)
    intro pc2 lv2 st2 t2 hm h2
    obtain ⟨rfl, vs2, ⟨k, hk, hJ⟩, hs⟩ := HDs_of h2
    exact WG.less (ih k hk pc2 vs2 t2 hm hJ) hs
theorem cal_heads {N N' : Nat} (shapes : List (Nat × List (Nat × Nat))) (J : Nat → Nat → List SV → Ht → Prop) (h : MO j q X) (hsz : wgt as ≤ q.2.2.2.1)
    (hw : wpc (CalG C mtab d) mt (cS C) (cG C) none X Post (shapes.map Prod.fst) (fun pc lv st t'' => HDs shapes pc lv st (fun vs => ∃ k, J k pc vs t'')) N 0 (largs 0 as) [] t)
    (hstep : ∀ n pc vs t', pc ∈ shapes.map Prod.fst → J n pc vs t' → wpc (CalG C mtab d) mt (cS C) (cG C) none X Post (shapes.map Prod.fst) (fun pc lv st t'' => HDs shapes pc lv st (fun vs => ∃ k, k < n ∧ J k pc vs t'')) N' pc (zipS shapes pc vs) [] t') : CalG C mtab (d + 1) j as t Post := by
  refine cal_of h hsz ?_ hw
  intro pc lv st t' hm h2
  obtain ⟨rfl, vs2, ⟨k, hJ⟩, hs⟩ := HDs_of h2
  exact WG.less (wg_heads (M := Mof q) shapes J h.2.2.2.1 h.2.2.2.2 (fun _ hz => by cases hz) hstep k pc vs2 t' hm hJ) hs
end CH
end
section
/-! throw new NoSuchElementException("text"): its String constructor links its superclass's by another entry (13) than the others -/
abbrev nsE : String := "java/util/NoSuchElementException"
abbrev rtE : String := "java/lang/RuntimeException"
def b13 : ByteArray := ⟨#[0x2a, 0x2b, 0xb7, 0x00, 0x0d, 0xb1]⟩
theorem b13_0 : decode b13 0 = .ok (.aload_n 0, 1) := by decide +kernel
theorem b13_1 : decode b13 1 = .ok (.aload_n 1, 1) := by decide +kernel
theorem b13_2 : decode b13 2 = .ok (.invokespecial 13, 3) := by decide +kernel
theorem b13_5 : decode b13 5 = .ok (.return_, 1) := by decide +kernel
def atN3 (own : String) (ic : Nat) : List Cond :=
  [.methodLink own ic (Bundle.initS nsE), .instantiable nsE 6, .selects nsE Bundle.tFill0 Bundle.tFill0, .selects nsE Bundle.tFill Bundle.tFill,
   .lays nsE Bundle.tN "cause" "Ljava/lang/Throwable;", .lays nsE Bundle.tN "stackTrace" Bundle.steD, .lays nsE Bundle.tN "suppressedExceptions" Bundle.listD, .lays nsE Bundle.tN "detailMessage" "Ljava/lang/String;",
   .isRef (.static Bundle.tN "UNASSIGNED_STACK" Bundle.steD), .isRef (.static Bundle.tN "SUPPRESSED_SENTINEL" Bundle.listD),
   .fieldLink Bundle.tN 198 Bundle.tN "backtrace" "Ljava/lang/Object;", .lays Bundle.tN Bundle.tN "backtrace" "Ljava/lang/Object;", .lays nsE Bundle.tN "backtrace" "Ljava/lang/Object;"]
def atN (own : String) (ic : Nat) : List Cond := (Bundle.throwableAtoms ++ Bundle.throwableSAtoms) ++ (Bundle.passSAtoms nsE rtE 13 b13 ++ (Bundle.chainSAtoms rtE ["java/lang/Exception"] ++ atN3 own ic))
theorem fit_ns : Bundle.fit nsE = true := by decide +kernel
theorem fit_rt : Bundle.fit rtE = true := by decide +kernel
set_option maxHeartbeats 1000000 in
theorem xn_ctor {p : Program} {l : Launch} {e : Env} {R : Room} {s : State} {m₀ : MethodId} {args : Array Value} {below : List Frame} {meth : Method} {c : Code} {W : State} {cells slots : Nat} (X : Stand p l e R s m₀ args below meth c W [] cells slots) (hexec : p.tables.exec = Jvm.exec) (htr : e.platform.stackTraces = false) {own : String} {ic : Nat}
    (hown : s.vm.findClass own = some m₀.cls) (h : ∀ a ∈ atN own ic, a.before args s = true)
    {a : Addr} {cX : ClassId} {kX : Class} (hfoundX : s.vm.findClass nsE = some cX) (hkX : s.vm.classes[cX]? = some kX) (hcell : W.heap[a]? = some (freshCell cX kX)) (hnew : s.heap.size ≤ a)
    {msg : Value} (hmsg : msg.isRef = true)
    {g : JFrame} (hg : g.method = m₀) (hsize : g.locals.size = c.maxLocals) (hlocked : g.locked = none) (hentered : g.entered = []) {rest : List Value} (hstack : g.stack = msg :: .ref a :: .ref a :: rest)
    (hd6 : decode c.code g.pc = .ok (.invokespecial ic, 3)) (hd9 : decode c.code (g.pc + 3) = .ok (.athrow, 1)) (hout : ∀ x ∈ c.exceptionTable.toList, covers x (g.pc + 3) = false)
    (hRframes : 5 < R.frames) (hRlocals : 2 * g.monitorRoom + ((Value.ref a :: rest).map fun v => v.category).sum + 81 ≤ R.locals) (hlocks : meth.locks = false) :
    ∃ U : State, Steps p.tables e below (W.setTop g) U ∧ U.status = .running ∧ Ended U below (.threw a) ∧ s.WarmedH U.vm ∧ s.sameButNew ({ U with vm := s.vm } : State) [] cells slots ∧
      ∃ ce : Cell, U.heap[a]? = some ce ∧ ce.vm = .none ∧ s.vm.findClass nsE = some ce.cls := by
  have hpl : e.platform.magicAccessors = ({} : Platform).magicAccessors := by rw [X.admits.platform]
  have i1 : ∀ x ∈ Bundle.throwableAtoms, x ∈ atN own ic := fun x hx => List.mem_append_left _ (List.mem_append_left _ hx)
  have i2 : ∀ x ∈ Bundle.throwableSAtoms, x ∈ atN own ic := fun x hx => List.mem_append_left _ (List.mem_append_right _ hx)
  have i3 : ∀ x ∈ Bundle.passSAtoms nsE rtE 13 b13, x ∈ atN own ic := fun x hx => List.mem_append_right _ (List.mem_append_left _ hx)
  have i4 : ∀ x ∈ Bundle.chainSAtoms rtE ["java/lang/Exception"], x ∈ atN own ic := fun x hx => List.mem_append_right _ (List.mem_append_right _ (List.mem_append_left _ hx))
  have a' : ∀ x, x ∈ atN3 own ic → x.holds args s none s [] = true := fun x hx => h x (List.mem_append_right _ (List.mem_append_right _ (List.mem_append_right _ hx)))
  obtain ⟨T, Z0, L, -, Y⟩ := ThrowableC.of_atoms (args := args) (by rw [X.admits.platform]) (by rw [X.admits.platform]) hpl (fun x hx => h x (i1 x hx))
  obtain ⟨Z, M, LZ, LM, hnZ⟩ := Init0T.ofS_atoms (args := args) hpl L Y (fun x hx => h x (i2 x hx))
  obtain ⟨P2, Ps, hlen, L2, hL, hP2m, hlink2, hlink⟩ := Bundle.chainS (args := args) hpl hnZ ["java/lang/Exception"] rtE fit_rt (by decide +kernel) (fun x hx => h x (i4 x hx))
  obtain ⟨P1, L1, hP1m, hP1s⟩ := PassC.ofS_atoms (args := args) (s := s) hpl (X := nsE) (Y := rtE) (Bundle.fit_spec fit_ns).1 (Bundle.fit_spec fit_rt).2 b13_0 b13_1 b13_2 b13_5 (fun x hx => h x (i3 x hx))
  have hlink1 : P1.sup = P2.m := Option.some.inj (hP1s.symm.trans hP2m)
  have hfound : s.vm.findClass nsE = some P1.m.cls := findClass_of_methodNamed hP1m
  cases Option.some.inj (hfoundX.symm.trans hfound)
  obtain ⟨c1, kX', hc1, hk, hord, -, -, hn6⟩ := Cond.instantiable_spec (a' (.instantiable nsE 6) (by simp [atN3]))
  cases Option.some.inj (hc1.symm.trans hfound)
  cases Option.some.inj (hkX.symm.trans hk)
  have hsel0 : selectMethod e.platform s.vm P1.m.cls T.fill0 = .method T.fill0 := by
    obtain ⟨c2, r2, m2, q1, q2, q3, q4, -⟩ := Cond.selects_spec (a' (.selects nsE Bundle.tFill0 Bundle.tFill0) (by simp [atN3]))
    cases Option.some.inj (q1.symm.trans hfound)
    cases Option.some.inj (q2.symm.trans (State.methodFound?_of_named Y.fill0 (by decide)))
    cases Option.some.inj (q3.symm.trans Y.fill0)
    rw [Launch.admits_selectMethod X.admits]; exact q4
  have hselF : selectMethod e.platform s.vm P1.m.cls T.fill = .method T.fill := by
    obtain ⟨c2, r2, m2, q1, q2, q3, q4, -⟩ := Cond.selects_spec (a' (.selects nsE Bundle.tFill Bundle.tFill) (by simp [atN3]))
    cases Option.some.inj (q1.symm.trans hfound)
    cases Option.some.inj (q2.symm.trans (State.methodFound?_of_named Y.fill (by decide)))
    cases Option.some.inj (q3.symm.trans Y.fill)
    rw [Launch.admits_selectMethod X.admits]; exact q4
  obtain ⟨cellS0, hcS0, hiss⟩ := Y.statics
  obtain ⟨u0, hu0⟩ := Cond.staticRefV Y.unassigned L.unassignedStatic L.statics hcS0 hiss (a' (.isRef (.static Bundle.tN "UNASSIGNED_STACK" Bundle.steD)) (by simp [atN3]))
  obtain ⟨sen, hsen⟩ := Cond.staticRefV Y.sentinel L.sentinelStatic L.statics hcS0 hiss (a' (.isRef (.static Bundle.tN "SUPPRESSED_SENTINEL" Bundle.listD)) (by simp [atN3]))
  obtain ⟨ci198, i198, fB, hk198, hg198, ha198, hsB, -, hnB, htB, hffB⟩ := Cond.ownField (t := .object "java/lang/Object") Y.found L.cls (by decide +kernel) (a' (.fieldLink Bundle.tN 198 Bundle.tN "backtrace" "Ljava/lang/Object;") (by simp [atN3])) (a' (.lays Bundle.tN Bundle.tN "backtrace" "Ljava/lang/Object;") (by simp [atN3])) e.platform hpl
  obtain ⟨cellS, hcellS, heS, -, hkeep⟩ := X.same.2.2.2.2.2 T.aS cellS0 hcS0
  have hknownS : cellS.vm ≠ .unknown := by
    rw [heS]; intro hu
    rw [show cellS0.vm = .unknown from hu] at hiss
    cases hiss
  have hneS : T.aS ≠ a := Nat.ne_of_lt (Nat.lt_of_lt_of_le (Array.getElem?_eq_some_iff.mp hcS0).1 hnew)
  obtain ⟨iM, hffM⟩ := Y.msg
  obtain ⟨tyC, dC, hdC, hdnC⟩ := Cond.laysAt hfound hk Y.cause (a' (.lays nsE Bundle.tN "cause" "Ljava/lang/Throwable;") (by simp [atN3]))
  obtain ⟨tyS, dS, hdS, hdnS⟩ := Cond.laysAt hfound hk Y.stack (a' (.lays nsE Bundle.tN "stackTrace" Bundle.steD) (by simp [atN3]))
  obtain ⟨tyP, dP, hdP, hdnP⟩ := Cond.laysAt hfound hk Y.supp (a' (.lays nsE Bundle.tN "suppressedExceptions" Bundle.listD) (by simp [atN3]))
  obtain ⟨tyM, dM, hdM, hdnM⟩ := Cond.laysAt hfound hk hffM (a' (.lays nsE Bundle.tN "detailMessage" "Ljava/lang/String;") (by simp [atN3]))
  obtain ⟨tyB, dB, hdB, hdnB⟩ := Cond.laysAt hfound hk hffB (a' (.lays nsE Bundle.tN "backtrace" "Ljava/lang/Object;") (by simp [atN3]))
  have bC := Cond.laysApart hdB hdC hdnB hdnC (by rw [hnB, Y.causeName]; decide)
  have bS := Cond.laysApart hdB hdS hdnB hdnS (by rw [hnB, Y.stackName]; decide)
  have bP := Cond.laysApart hdB hdP hdnB hdnP (by rw [hnB, Y.suppName]; decide)
  have hskip : SkipFacts T e.platform s (fun u => u) u0 ((preparedCellV T.toThrowableT (freshCell P1.m.cls kX) a u0 sen).withEntry W.cur) :=
    ⟨{ ci198 := ci198, i198 := i198, fBack := fB }, ⟨hk198, hg198, ha198, hsB⟩, by
      have := fresh_default (c := P1.m.cls) tyB
      rw [htB] at this
      simpa [preparedCellV, Cell.setSlot, Cell.withEntry, Array.getElem?_setIfInBounds, bC, bS, bP, bC.symm, bS.symm, bP.symm, defaultValue] using this, fun _ _ => rfl⟩
  obtain ⟨tm, methC, cdC, kC, vm₁, hnC, -, -, -, -, -, -, -, hW₁, st1⟩ := Steps.initColdS (tb := p.tables) (e := e) (below := below) (s := s) (U := W) X.here hexec X.warmed hpl hown (t := Bundle.initS nsE) rfl rfl (Bundle.fit_spec fit_ns).2
    (a' (.methodLink own ic (Bundle.initS nsE)) (by simp [atN3])) (h (.instanceMethod (Bundle.initS nsE)) (i3 _ (by simp [Bundle.passSAtoms]))) (bytes := b13) (maxL := 2) (h (.code (Bundle.initS nsE) b13 2 none) (i3 _ (by simp [Bundle.passSAtoms])))
    (f := g) hg (a := a) (msg := msg) (rest := .ref a :: rest) hstack hd6
  cases Option.some.inj (hnC.symm.trans hP1m)
  have X₁ := X.noted hW₁
  have hps : Ps.length = 1 := hlen
  obtain ⟨vm₂, X₂, st2⟩ := X₁.ctorMessageOffV hexec (g := { g with stack := .ref a :: rest }) hg hsize T L Z LZ M LM (P1 :: P2 :: Ps)
    (fun P hP => by
      rcases List.mem_cons.mp hP with rfl | hP
      · exact L1
      · rcases List.mem_cons.mp hP with rfl | hP
        · exact L2
        · exact hL P hP) ⟨hlink1, hlink2, hlink⟩ (u0 := u0) (sen := sen) (self := a) hmsg (cell := freshCell P1.m.cls kX) (cellS := cellS)
    hcell (fun _ => by simp) (by simp) rfl rfl hsel0 hselF hcellS hneS hknownS (by rw [hkeep _ (by simp)]; exact hu0) (by rw [hkeep _ (by simp)]; exact hsen)
    (Takes.of_laid hk hord tyC (by rw [Y.causeType]; rfl)) (Takes.of_laid hk hord tyS (by rw [Y.stackType]; exact fits_refV_array _ u0)) (Takes.of_laid hk hord tyP (by rw [Y.suppType]; exact fits_refV_object _ sen))
    (Takes.of_laid hk hord tyM (by rw [Y.msgType]; exact fits_refV_object _ ⟨msg, hmsg⟩)) Y.objLocals hskip htr [] hd6
    (by simp only [List.length_cons, hps]; omega) (by simp only [List.length_cons, hps]; exact hRlocals)
  obtain ⟨hwalk, hrun, hended, hWU, hsame⟩ := X₂.athrowLeaves hexec (g := { g with stack := .ref a :: rest, pc := g.pc + 3 }) hg hlocked hentered hout (a := a) (rest := rest) rfl hd9
  have hlt : a < ((W.setVm vm₁).setVm vm₂).heap.size := (Array.getElem?_eq_some_iff.mp hcell).1
  have hU := heapAt_setCell_self (s := (W.setVm vm₁).setVm vm₂) (plainBareV T.toThrowableT (freshCell P1.m.cls kX) a u0 sen msg) hlt
  refine ⟨_, st1 _ (fun acts => ?_), hrun, hended, hWU, hsame.weaken (fun y hy hlt' => ?_) (Nat.le_refl _) (Nat.le_refl _), _, hU, rfl, hfound⟩
  · rw [doInvoke_state]
    exact st2 _ hwalk
  · exfalso
    have hb : y.base = a := by
      simp only [List.nil_append, List.mem_cons, List.not_mem_nil, or_false] at hy
      rcases hy with rfl | rfl | rfl | rfl | rfl <;> rfl
    rw [hb] at hlt'
    exact Nat.not_lt.mpr hnew hlt'
end
section
/-! the new cell of a NoSuchElementException known -/
theorem xn_throwS {p : Program} {l : Launch} {e : Env} {R : Room} {s : State} {m : MethodId} {args : Array Value} {below : List Frame} {meth : Method} {c : Code} {H : Heap} {locs : List Loc} {cells slots : Nat} {free : Addr → Prop} {ls : Array Slot} {rest : List Value} {Qc : Array Value → State → Outcome → State → Prop} {cc : ByteArray} {pc : Nat} (hexec : p.tables.exec = Jvm.exec) (hb : c.code = cc) (hl : l.stackTraces = false) {own text : String} {ik is ic mc ms sa : Nat} {A : Nat → Prop}
    (hown : s.vm.findClass own = some m.cls) 
    (hk : (Cond.classLink own ik nsE).before args s = true) (hini : (Cond.initialized nsE).before args s = true) (hstr : vk_R own is text sa s) (hat : ∀ w ∈ (atN own ic).filter vx_no, w.before args s = true)
    (hgood : ∀ w ∈ Cond.classLink own ik nsE :: Cond.initialized nsE :: (atN own ic).filter vx_no, vx_ot w = true)
    (hU : vx_Zq Bundle.tN "UNASSIGNED_STACK" Bundle.steD A s s.heap) (hN : vx_Zq Bundle.tN "SUPPRESSED_SENTINEL" Bundle.listD A s s.heap) (hS : va_S A s.heap H locs) (hsize : ls.size = c.maxLocals)
    (d0 : decode cc pc = .ok (.new ik, 3)) (d3 : decode cc (pc + 3) = .ok (.dup, 1)) (d4 : decode cc (pc + 4) = .ok (.ldc is, 2)) (d6 : decode cc (pc + 6) = .ok (.invokespecial ic, 3)) (d9 : decode cc (pc + 9) = .ok (.athrow, 1))
    (hout : ∀ x ∈ c.exceptionTable.toList, covers x (pc + 9) = false)
    (hRframes : 5 < R.frames) (hRlocals : (rest.map fun v => v.category).sum + 82 ≤ R.locals) (hRcells : cells + 1 ≤ R.cells) (hRslots : slots + 6 ≤ R.slots) (hlocks : meth.locks = false)
    (hx : ∀ (t : State) (ce : Cell), s.WarmedH t.vm → t.heap.size = H.size + 1 → (∀ q : Nat, q < H.size → t.heap[q]? = H[q]?) → t.heap[H.size]? = some ce → ce.vm = .none → s.vm.findClass nsE = some ce.cls → Qc args s (.threw H.size) t)
    (hf : ∀ z ∈ locs, free z.base) (hc : cells + 1 ≤ mc) (hs : slots + 6 ≤ ms) :
    W p l e R s m args below meth c H locs cells slots (xb_MQ below Qc args s mc ms free) (F0 m pc ls rest) := by
  intro T hT X
  have htr : e.platform.stackTraces = false := (show e.platform.stackTraces = l.stackTraces by rw [X.admits.platform]).trans hl
  have Y := vx_rebase X (R' := { frames := R.frames, locals := R.locals, cells := 1, slots := 6 }) (Nat.le_refl _) (Nat.le_refl _) hRcells hRslots
  obtain ⟨s', hA⟩ : ∃ z, z = (T.setVm s.vm).setFrames (.invoking m args :: below) := ⟨_, rfl⟩
  rw [← hA] at Y
  have hvm : s'.vm = s.vm := by rw [hA]; rfl
  have hhp : s'.heap = H := by rw [hA]; exact hT
  have hW0 : s.WarmedH s'.vm := by rw [hvm]; exact State.WarmedH.refl s
  have hat' : ∀ w ∈ (atN own ic).filter vx_no, w.before args s' = true := fun w hw => vx_ot_at hW0 hvm.symm (hgood w (List.mem_cons_of_mem _ (List.mem_cons_of_mem _ hw))) (hat w hw)
  have hk' : (Cond.classLink own ik nsE).before args s' = true := vx_ot_at hW0 hvm.symm (hgood _ List.mem_cons_self) hk
  have hini' : (Cond.initialized nsE).before args s' = true := vx_ot_at hW0 hvm.symm (hgood _ (List.mem_cons_of_mem _ List.mem_cons_self)) hini
  have hU' : vx_Zq Bundle.tN "UNASSIGNED_STACK" Bundle.steD A s' s'.heap := by rw [hhp]; exact vx_Zq.moved hW0.alike (hU.kept hS.2.1)
  have hN' : vx_Zq Bundle.tN "SUPPRESSED_SENTINEL" Bundle.listD A s' s'.heap := by rw [hhp]; exact vx_Zq.moved hW0.alike (hN.kept hS.2.1)
  have h : ∀ w ∈ atN own ic, w.before args s' = true := vx_own hat' (vx_isRefq hU'.1) (vx_isRefq hN'.1) hU'.2.word hN'.2.word
  have hown' : s'.vm.findClass own = some m.cls := by rw [hvm]; exact hown
  have hins : (Cond.instantiable nsE 6).before args s' = true := h _ (List.mem_append_right _ (List.mem_append_right _ (List.mem_append_right _ (by simp [atN3]))))
  obtain ⟨vm₁, cX, kX, hfX, hkX, -, -, X₁, st1⟩ := Y.newCold hexec (own := own) (C := nsE) (index := ik) (n := 6) hown' hk' hins hini'
    (g := F0 m pc ls rest) rfl (by rw [hb]; exact d0) (Nat.le_refl _) (Nat.le_refl _)
  generalize hT1 : (T.setVm vm₁).pushCell { cls := cX, slots := kX.instanceTypes.map defaultValue, vm := .none } = T1 at X₁ st1
  have hcat : (Value.ref T.heap.size).category = 1 := rfl
  have hcellA : T1.heap[T.heap.size]? = some (freshCell cX kX) := by rw [← hT1]; exact State.heap_pushCell_size _ _
  have d3' : decode c.code (pc + 3) = .ok (.dup, 1) := by rw [hb]; exact d3
  have d4' : decode c.code (pc + 4) = .ok (.ldc is, 2) := by rw [hb]; exact d4
  have hstr' : vk_R own is text sa s' := vk_R.warm hW0 hstr
  obtain ⟨U, hsteps, hrun, hend, hW, hsame, ce, hce, hOv, hOc⟩ := xn_ctor X₁ hexec htr (own := own) (ic := ic) hown' h hfX hkX hcellA (by rw [hhp, hT]; exact Nat.le_refl _) (msg := .ref sa) rfl
    (g := { method := m, pc := pc + 6, locals := ls, stack := .ref sa :: .ref T.heap.size :: .ref T.heap.size :: rest, locked := none }) rfl hsize rfl rfl (rest := rest) rfl
    (by rw [hb]; exact d6) (by rw [hb]; exact d9) hout hRframes (by simp only [List.map_cons, List.sum_cons, hcat]; omega) hlocks
  obtain ⟨f1, f2⟩ := vx_frame hsame
  rw [hhp] at f1 f2
  have hWs : s.WarmedH U.vm := State.WarmedH.trans hW0 hW
  have hcl : s.vm.findClass nsE = some ce.cls := by
    have h9 := hOc
    rw [hvm] at h9
    exact h9
  have hall : s.sameButNew ({ U with vm := s.vm } : State) locs mc ms := by
    subst hA
    obtain ⟨e1, e2⟩ := hsame
    rw [State.setFrames_setFrames] at e1
    have h2 : (T.setVm s.vm).sameButNew ({ U with vm := s.vm } : State) [] (0 + 1) (0 + 6) := ⟨e1, e2⟩
    have h3 := X.same.trans h2
    rw [List.append_nil] at h3
    exact h3.mono hc hs
  have hsz : U.heap.size = H.size + 1 := by
    have z1 : U.heap.size ≤ s'.heap.size + (0 + 1) := hsame.2.2.1
    have z2 : T.heap.size < U.heap.size := (Array.getElem?_eq_some_iff.mp hce).1
    rw [hhp] at z1
    rw [hT] at z2
    omega
  have hq9 := hx U ce hWs hsz (fun q hq => f2 q hq (fun z hz => nomatch hz)) (by rw [← hT]; exact hce) hOv hcl
  rw [← hT] at hq9
  refine ⟨U, ?_, .threw T.heap.size, hrun, hend, hq9, hWs, locs, hall, hf⟩
  refine st1 _ ?_
  show Steps p.tables e below (T1.setTop { method := m, pc := pc + 3, locals := ls, stack := .ref T.heap.size :: rest, locked := none }) _
  jvm_step X₁.here [X₁.here.top, hexec, d3', Value.category]
  exact X₁.ldcString hexec (own := own) (text := text) (index := is) (a := sa) hown' hstr'.1 hstr'.2
    (g := { method := m, pc := pc + 4, locals := ls, stack := .ref T.heap.size :: .ref T.heap.size :: rest, locked := none }) rfl d4' _ hsteps

def TWn (M : Mi) (ik is ic sn : Nat) (text : String) : Prop := Cond.classLink M.1 ik nsE ∈ gW ∧ Cond.initialized nsE ∈ gW ∧ (∀ w ∈ ((atN M.1 ic).filter vx_no).filter goodWord, w ∈ gW) ∧ (∀ w ∈ ((atN M.1 ic).filter vx_no).filter (fun w => !goodWord w), w ∈ dWx) ∧
  (∀ w ∈ Cond.classLink M.1 ik nsE :: Cond.initialized nsE :: (atN M.1 ic).filter vx_no, vx_ot w = true) ∧ (M.1, is, text, sn) ∈ strL
theorem gd_throwN {C : Cx} {M : Mi} {h0 h : Hp} {fr lo ik is ic sn : Nat} {text : String} {pc : Nat} {lv : List (Nat × Value)} {st : List Value} {f : Nat → Value} (hT : TWn M ik is ic sn text) (hh : ∀ q ∈ M.2.2.2.2.2, ¬ (q.1 ≤ pc + 9 ∧ pc + 9 < q.2.1)) (hfr : 6 ≤ fr) (hlo : 100 ≤ lo) (hW : (st.map fun v => v.category).sum ≤ 8)
    (d0 : decode M.2.2.1 pc = .ok (.new ik, 3)) (d3 : decode M.2.2.1 (pc + 3) = .ok (.dup, 1)) (d4 : decode M.2.2.1 (pc + 4) = .ok (.ldc is, 2)) (d6 : decode M.2.2.1 (pc + 6) = .ok (.invokespecial ic, 3)) (d9 : decode M.2.2.1 (pc + 9) = .ok (.athrow, 1)) :
    Gd C M fr lo h0 (.inr (202, 0)) (hNew h 0 0 6 f) pc lv st h := by
  intro p e s m args below meth c H locs ls hc hR0 hR hn hu hq hl
  obtain ⟨t1, t2, t3, t4, t5, t8⟩ := hT
  have hSF := hc.2.2.2.2.2.2.2.2
  have hts : ∀ w ∈ gW, w.before args s = true := fun w hw => hSF.1 w hw args
  have hold : ∀ q, q < cB C → s.heap[q]? = (cH C)[q]? := hR0.2.2.1
  have hkp : ∀ a : Nat, a < (cH C).size → ¬ cB C ≤ a → s.heap[a]? = (cH C)[a]? := fun a _ ha => hold a (Nat.not_le.mp ha)
  have e1 : hN (hNew h 0 0 6 f) - hN h0 = hN h - hN h0 + 1 := by show hN h + 1 - hN h0 = _; omega
  have e2 : hU (hNew h 0 0 6 f) - hU h0 = hU h - hU h0 + 6 := by show hU h + 6 - hU h0 = _; omega
  refine xn_throwS (A := fun q => cB C ≤ q) hc.1 hc.2.1 hSF.2.2.2.2.2.1.1 hc.2.2.2.2.2.2.1 (hts _ t1) (hts _ t2) (hSF.2.2.2.2.2.2.1 _ t8)
    (vx_hat (fun w hw => hts w (t3 w hw)) t4 (fun w hw => by
      have h9 := hSF.2.2.2.2.2.2.2.2.1 w hw
      simp only [dWx, List.mem_cons, List.not_mem_nil, or_false] at hw
      rcases hw with rfl | rfl | rfl <;> exact va_Nw.use rfl h9)) t5
    (hSF.2.2.2.2.2.1.2.1.kept hkp) (hSF.2.2.2.2.2.1.2.2.kept hkp) ⟨by rw [hR0.1, hR.1]; exact hn, fun q h1 h2 => by rw [hold q (Nat.not_le.mp h2)]; exact hR.2.2.1 q (Nat.not_le.mp h2), hq⟩ (hl.1.trans hc.2.2.1.symm)
    d0 d3 d4 d6 d9 (fun x hx => ?_) (by show 5 < fr; omega) (by show _ + 82 ≤ lo; omega) (by show hN h - hN h0 + 1 ≤ hN (hNew h 0 0 6 f) - hN h0; omega) (by show hU h - hU h0 + 6 ≤ hU (hNew h 0 0 6 f) - hU h0; omega) hc.2.2.2.2.1 ?_ hq (by omega) (by omega)
  · have h1 := hh (xb_hh x) (by rw [← hc.2.2.2.2.2.1]; exact List.mem_map_of_mem hx)
    simp only [covers, xb_hh] at h1 ⊢
    by_cases e1 : x.startPc ≤ pc + 9
    · by_cases e2 : pc + 9 < x.endPc
      · exact absurd ⟨e1, e2⟩ h1
      · simp [e2]
    · simp [e1]
  · intro t ce hW hsz hk hce hv hcl
    refine ⟨⟨by rw [hsz, hR.1]; rfl, Nat.le_succ_of_le hR.2.1, fun q hlt => ?_, fun b hb => ?_⟩, H.size, rfl, Or.inr ⟨by omega, ce, hce, hv, hcl⟩⟩
    · rw [hk q (by rw [hR.1]; exact Nat.lt_of_lt_of_le hlt hR.2.1)]; exact hR.2.2.1 q hlt
    · by_cases e : b = hN h
      · exact absurd (by simp [hNew, hK, e]) hb
      · have hb' : hK h b ≠ 0 := by simpa [hNew, hK, e] using hb
        obtain ⟨q1, q2, q3⟩ := hR.2.2.2 b hb'
        refine ⟨q1, Nat.lt_succ_of_lt q2, ?_⟩
        have e1 := q3.kept (H1 := t.heap) (hk b (by rw [hR.1]; exact q2))
        have e2 : hV (hNew h 0 0 6 f) b = hV h b := by funext j; simp [hNew, hV, e]
        have e3 : hK (hNew h 0 0 6 f) b = hK h b := by simp [hNew, hK, e]
        have e4 : hL (hNew h 0 0 6 f) b = hL h b := by simp [hNew, hL, e]
        refine ⟨fun z => ?_, fun z1 z2 => ?_⟩
        · rw [e2, e3]; rw [e3] at z; exact e1.1 z
        · rw [e2, e3, e4]; rw [e3] at z1 z2; exact e1.2 z1 z2
end
section
/-! code tables of Math, of out and of the law -/
def plE : Pool := ([], [], [], [], [], [], [])
theorem plE_ok : PoolOK "java/lang/Math" plE mtab mt := pool_of fa_0 fa_0 fa_0 fa_0 fa_0 fa_0 fa_0
def k249 : Code1 := [(0, .lload_n 0, 1), (1, .lconst 0, 1), (2, .lcmp, 1), (3, .ifCond .ge 8, 3), (6, .lload_n 0, 1), (7, .lneg, 1), (8, .goto 4, 3), (11, .lload_n 0, 1), (12, .lreturn, 1)]
theorem k249_d : ∀ q ∈ k249, decode cJ9_abs_067f4 q.1 = .ok q.2 := by decide +kernel
def X249 : MT := (k249, plE, (some FieldType.long), false, [])
theorem X249_ok : CodeOK (Mof mE249) X249 := ⟨code_1 k249_d (by decide +kernel), rfl, fun h => absurd h (by decide), Or.inl ⟨rfl, rfl⟩, thr_0 (by decide +kernel)⟩
def k250 : Code1 := [(0, .iload_n 0, 1), (1, .iload_n 1, 1), (2, .if_icmp .lt 7, 3), (5, .iload_n 0, 1), (6, .goto 4, 3), (9, .iload_n 1, 1), (10, .ireturn, 1)]
theorem k250_d : ∀ q ∈ k250, decode cJ9_max_7cf53 q.1 = .ok q.2 := by decide +kernel
def X250 : MT := (k250, plE, (some FieldType.int), false, [])
theorem X250_ok : CodeOK (Mof mE250) X250 := ⟨code_1 k250_d (by decide +kernel), rfl, fun h => absurd h (by decide), Or.inl ⟨rfl, rfl⟩, thr_0 (by decide +kernel)⟩
def k251 : Code1 := [(0, .lload_n 0, 1), (1, .lload_n 2, 1), (2, .lcmp, 1), (3, .ifCond .lt 7, 3), (6, .lload_n 0, 1), (7, .goto 4, 3), (10, .lload_n 2, 1), (11, .lreturn, 1)]
theorem k251_d : ∀ q ∈ k251, decode cJ9_max_f86c9 q.1 = .ok q.2 := by decide +kernel
def X251 : MT := (k251, plE, (some FieldType.long), false, [])
theorem X251_ok : CodeOK (Mof mE251) X251 := ⟨code_1 k251_d (by decide +kernel), rfl, fun h => absurd h (by decide), Or.inl ⟨rfl, rfl⟩, thr_0 (by decide +kernel)⟩
def k252 : Code1 := [(0, .iload_n 0, 1), (1, .iload_n 1, 1), (2, .if_icmp .gt 7, 3), (5, .iload_n 0, 1), (6, .goto 4, 3), (9, .iload_n 1, 1), (10, .ireturn, 1)]
theorem k252_d : ∀ q ∈ k252, decode cJ9_min_7cf53 q.1 = .ok q.2 := by decide +kernel
def X252 : MT := (k252, plE, (some FieldType.int), false, [])
theorem X252_ok : CodeOK (Mof mE252) X252 := ⟨code_1 k252_d (by decide +kernel), rfl, fun h => absurd h (by decide), Or.inl ⟨rfl, rfl⟩, thr_0 (by decide +kernel)⟩
def k253 : Code1 := [(0, .lload_n 0, 1), (1, .lload_n 2, 1), (2, .lcmp, 1), (3, .ifCond .gt 7, 3), (6, .lload_n 0, 1), (7, .goto 4, 3), (10, .lload_n 2, 1), (11, .lreturn, 1)]
theorem k253_d : ∀ q ∈ k253, decode cJ9_min_f86c9 q.1 = .ok q.2 := by decide +kernel
def X253 : MT := (k253, plE, (some FieldType.long), false, [])
theorem X253_ok : CodeOK (Mof mE253) X253 := ⟨code_1 k253_d (by decide +kernel), rfl, fun h => absurd h (by decide), Or.inl ⟨rfl, rfl⟩, thr_0 (by decide +kernel)⟩
def k138 : Code1 := [(0, .aload_n 0, 1), (1, .getfield 48, 3), (4, .iload_n 1, 1), (5, .invokevirtual 136, 3), (8, .ifCond .ne 13, 3), (11, .new 139, 3), (14, .dup, 1), (15, .ldc 141, 2), (17, .invokespecial 143, 3), (20, .athrow, 1), (21, .aload_n 0, 1), (22, .getfield 48, 3), (25, .iload_n 1, 1), (26, .invokevirtual 146, 3), (29, .ireturn, 1)]
theorem k138_d : ∀ q ∈ k138, decode cX11_out q.1 = .ok q.2 := by decide +kernel
def pl11n : Pool := (pl11.1, pl11.2.1, pl11.2.2.1.filter (fun e => !(e.2 == 202)), pl11.2.2.2)
theorem pl11n_ok : PoolOK "PathHouse" pl11n mtab mt := pool_of pl11_f pl11_m (fun e he => pl11_k e (List.mem_filter.mp he).1) pl11_i pl11_j pl11_s pl11_g
def X138 : MT := (k138, pl11n, (some FieldType.int), false, [])
theorem X138_ok : CodeOK (Mof mE138) X138 := ⟨code_1 k138_d (by decide +kernel), rfl, fun h => absurd h (by decide), Or.inl ⟨rfl, rfl⟩, thr_0 (by decide +kernel)⟩
theorem twn138 : TWn (Mof mE138) 139 141 143 0 "OUT has no such byte" := ⟨gw (tw6 (i := 57) rfl) rfl, gw (tw1 (i := 34) rfl) rfl, by decide +kernel, by decide +kernel, by decide +kernel, by decide +kernel⟩
theorem wg138 {C : Cx} {d : Nat} {t0 t : Ht} {Q : OutT → Ht → Prop} {lv : LV} (h : Q (.inr (202, 0)) (tNew t 0 0 6)) : WG C (Mof mE138) (d + 1) t0 Q 11 lv [] t := by
  refine ⟨_, _, h, Nat.le_succ _, Nat.le_add_right _ _, ?_⟩
  have g := gd_throwN (C := C) (M := Mof mE138) (h0 := tv t0) (h := tv t) (fr := frD (d + 1)) (lo := loD (d + 1)) (lv := lv.map fv) (st := []) (f := fun k => dV (slN 0 k)) twn138 (by intro q hq; cases hq) (by unfold frD; omega) (by unfold loD; omega) (by decide) (k138_d (11, _, _) (by simp [k138])) (k138_d (14, _, _) (by simp [k138])) (k138_d (15, _, _) (by simp [k138])) (k138_d (17, _, _) (by simp [k138])) (k138_d (20, _, _) (by simp [k138]))
  rw [hNew_tv (f := fun k => dV (slN 0 k)) (fun k => rfl)] at g
  exact g
end
