/-! pools and code tables of the JDK -/
def pj0 : Pool := ([], [(335, 256), (492, 257), (495, 259), (1059, 280), (498, 262)], [], [], [], [], [(1053, 3)])
theorem pj0_f : ∀ e ∈ pj0.1, FOK "java/lang/String" e := fa_0
theorem pj0_m : ∀ e ∈ pj0.2.1, MOK "java/lang/String" e := fa_c (Or.inr ⟨(show (256 : Nat) ≠ 9999 by decide), mE256, 0, 4000, 1, rfl, rfl, mK256.1, mK256.2, Or.inl (gw (tw2 (i := 171) rfl) rfl)⟩) (fa_c (Or.inr ⟨(show (257 : Nat) ≠ 9999 by decide), mE257, 0, 4000, 1, rfl, rfl, mK257.1, mK257.2, Or.inl (gw (tw2 (i := 181) rfl) rfl)⟩) (fa_c (Or.inr ⟨(show (259 : Nat) ≠ 9999 by decide), mE259, 2, 1000, 1, rfl, rfl, mK259.1, mK259.2, Or.inl (gw (tw2 (i := 185) rfl) rfl)⟩) (fa_c (Or.inr ⟨(show (280 : Nat) ≠ 9999 by decide), mE280, 3, 1000, 1, rfl, rfl, mK280.1, mK280.2, Or.inl (gw (tw2 (i := 193) rfl) rfl)⟩) (fa_c (Or.inr ⟨(show (262 : Nat) ≠ 9999 by decide), mE262, 2, 1000, 1, rfl, rfl, mK262.1, mK262.2, Or.inl (gw (tw2 (i := 196) rfl) rfl)⟩) fa_0))))
theorem pj0_k : ∀ e ∈ pj0.2.2.1, KOK "java/lang/String" e := fa_0
theorem pj0_i : ∀ e ∈ pj0.2.2.2.1, Cond.constant "java/lang/String" e.1 e.2 ∈ gW := fa_0
theorem pj0_j : ∀ e ∈ pj0.2.2.2.2.1, Cond.constantLong "java/lang/String" e.1 e.2 ∈ gW := fa_0
theorem pj0_s : ∀ e ∈ pj0.2.2.2.2.2.1, ∃ tx, ("java/lang/String", e.1, tx, e.2) ∈ strL := fa_0
theorem pj0_g : ∀ e ∈ pj0.2.2.2.2.2.2, ∃ c n dsc, (c, n, dsc, e.2) ∈ stL ∧ Cond.fieldLink "java/lang/String" e.1 c n dsc ∈ gW := fa_c (⟨"jdk/internal/util/Preconditions", "SIOOBE_FORMATTER", "Ljava/util/function/BiFunction;", by decide +kernel, gw (tw2 (i := 191) rfl) rfl⟩) fa_0
theorem pj0_ok : PoolOK "java/lang/String" pj0 mtab mt := pool_of pj0_f pj0_m pj0_k pj0_i pj0_j pj0_s pj0_g
def pj1 : Pool := ([], [(9, 258)], [], [], [], [], [])
theorem pj1_f : ∀ e ∈ pj1.1, FOK "java/lang/StringLatin1" e := fa_0
theorem pj1_m : ∀ e ∈ pj1.2.1, MOK "java/lang/StringLatin1" e := fa_c (Or.inr ⟨(show (258 : Nat) ≠ 9999 by decide), mE258, 2, 1000, 0, rfl, rfl, mK258.1, mK258.2, Or.inl (gw (tw2 (i := 188) rfl) rfl)⟩) fa_0
theorem pj1_k : ∀ e ∈ pj1.2.2.1, KOK "java/lang/StringLatin1" e := fa_0
theorem pj1_i : ∀ e ∈ pj1.2.2.2.1, Cond.constant "java/lang/StringLatin1" e.1 e.2 ∈ gW := fa_0
theorem pj1_j : ∀ e ∈ pj1.2.2.2.2.1, Cond.constantLong "java/lang/StringLatin1" e.1 e.2 ∈ gW := fa_0
theorem pj1_s : ∀ e ∈ pj1.2.2.2.2.2.1, ∃ tx, ("java/lang/StringLatin1", e.1, tx, e.2) ∈ strL := fa_0
theorem pj1_g : ∀ e ∈ pj1.2.2.2.2.2.2, ∃ c n dsc, (c, n, dsc, e.2) ∈ stL ∧ Cond.fieldLink "java/lang/StringLatin1" e.1 c n dsc ∈ gW := fa_0
theorem pj1_ok : PoolOK "java/lang/StringLatin1" pj1 mtab mt := pool_of pj1_f pj1_m pj1_k pj1_i pj1_j pj1_s pj1_g
def pj2 : Pool := ([], [(105, 280)], [], [], [], [], [])
theorem pj2_f : ∀ e ∈ pj2.1, FOK "java/util/Objects" e := fa_0
theorem pj2_m : ∀ e ∈ pj2.2.1, MOK "java/util/Objects" e := fa_c (Or.inr ⟨(show (280 : Nat) ≠ 9999 by decide), mE280, 3, 1000, 1, rfl, rfl, mK280.1, mK280.2, Or.inl (gw (tw3 (i := 162) rfl) rfl)⟩) fa_0
theorem pj2_k : ∀ e ∈ pj2.2.2.1, KOK "java/util/Objects" e := fa_0
theorem pj2_i : ∀ e ∈ pj2.2.2.2.1, Cond.constant "java/util/Objects" e.1 e.2 ∈ gW := fa_0
theorem pj2_j : ∀ e ∈ pj2.2.2.2.2.1, Cond.constantLong "java/util/Objects" e.1 e.2 ∈ gW := fa_0
theorem pj2_s : ∀ e ∈ pj2.2.2.2.2.2.1, ∃ tx, ("java/util/Objects", e.1, tx, e.2) ∈ strL := fa_0
theorem pj2_g : ∀ e ∈ pj2.2.2.2.2.2.2, ∃ c n dsc, (c, n, dsc, e.2) ∈ stL ∧ Cond.fieldLink "java/util/Objects" e.1 c n dsc ∈ gW := fa_0
theorem pj2_ok : PoolOK "java/util/Objects" pj2 mtab mt := pool_of pj2_f pj2_m pj2_k pj2_i pj2_j pj2_s pj2_g
def pj3 : Pool := ([], [], [], [], [], [], [])
theorem pj3_f : ∀ e ∈ pj3.1, FOK "jdk/internal/util/Preconditions" e := fa_0
theorem pj3_m : ∀ e ∈ pj3.2.1, MOK "jdk/internal/util/Preconditions" e := fa_0
theorem pj3_k : ∀ e ∈ pj3.2.2.1, KOK "jdk/internal/util/Preconditions" e := fa_0
theorem pj3_i : ∀ e ∈ pj3.2.2.2.1, Cond.constant "jdk/internal/util/Preconditions" e.1 e.2 ∈ gW := fa_0
theorem pj3_j : ∀ e ∈ pj3.2.2.2.2.1, Cond.constantLong "jdk/internal/util/Preconditions" e.1 e.2 ∈ gW := fa_0
theorem pj3_s : ∀ e ∈ pj3.2.2.2.2.2.1, ∃ tx, ("jdk/internal/util/Preconditions", e.1, tx, e.2) ∈ strL := fa_0
theorem pj3_g : ∀ e ∈ pj3.2.2.2.2.2.2, ∃ c n dsc, (c, n, dsc, e.2) ∈ stL ∧ Cond.fieldLink "jdk/internal/util/Preconditions" e.1 c n dsc ∈ gW := fa_0
theorem pj3_ok : PoolOK "jdk/internal/util/Preconditions" pj3 mtab mt := pool_of pj3_f pj3_m pj3_k pj3_i pj3_j pj3_s pj3_g
def pj4 : Pool := ([], [(194, 250), (201, 279)], [], [(200, 2147483639)], [], [], [])
theorem pj4_f : ∀ e ∈ pj4.1, FOK "jdk/internal/util/ArraysSupport" e := fa_0
theorem pj4_m : ∀ e ∈ pj4.2.1, MOK "jdk/internal/util/ArraysSupport" e := fa_c (Or.inr ⟨(show (250 : Nat) ≠ 9999 by decide), mE250, 2, 1000, 1, rfl, rfl, mK250.1, mK250.2, Or.inl (gw (tw3 (i := 95) rfl) rfl)⟩) (fa_c (Or.inr ⟨(show (279 : Nat) ≠ 9999 by decide), mE279, 2, 1000, 1, rfl, rfl, mK279.1, mK279.2, Or.inl (gw (tw3 (i := 99) rfl) rfl)⟩) fa_0)
theorem pj4_k : ∀ e ∈ pj4.2.2.1, KOK "jdk/internal/util/ArraysSupport" e := fa_0
theorem pj4_i : ∀ e ∈ pj4.2.2.2.1, Cond.constant "jdk/internal/util/ArraysSupport" e.1 e.2 ∈ gW := fa_c (gw (tw3 (i := 98) rfl) rfl) fa_0
theorem pj4_j : ∀ e ∈ pj4.2.2.2.2.1, Cond.constantLong "jdk/internal/util/ArraysSupport" e.1 e.2 ∈ gW := fa_0
theorem pj4_s : ∀ e ∈ pj4.2.2.2.2.2.1, ∃ tx, ("jdk/internal/util/ArraysSupport", e.1, tx, e.2) ∈ strL := fa_0
theorem pj4_g : ∀ e ∈ pj4.2.2.2.2.2.2, ∃ c n dsc, (c, n, dsc, e.2) ∈ stL ∧ Cond.fieldLink "jdk/internal/util/ArraysSupport" e.1 c n dsc ∈ gW := fa_0
theorem pj4_ok : PoolOK "jdk/internal/util/ArraysSupport" pj4 mtab mt := pool_of pj4_f pj4_m pj4_k pj4_i pj4_j pj4_s pj4_g
def pj5 : Pool := ([(9, 0, 1, 1), (48, 0, 2, 1)], [(1, 265), (131, 272), (129, 268), (69, 267), (73, 278), (66, 274), (79, 250), (118, 277), (123, 270)], [(7, 300)], [], [], [], [(39, 2)])
theorem pj5_f : ∀ e ∈ pj5.1, FOK "java/util/ArrayList" e := fa_c (⟨by decide, _, cl0, by decide, Or.inl (gw (tw2 (i := 86) rfl) rfl), fun h => ⟨rfl, gw (tw2 (i := 86) rfl) rfl⟩⟩) (fa_c (⟨by decide, _, cl0, by decide, Or.inl (gw (tw2 (i := 87) rfl) rfl), fun h => ⟨rfl, gw (tw2 (i := 87) rfl) rfl⟩⟩) fa_0)
theorem pj5_m : ∀ e ∈ pj5.2.1, MOK "java/util/ArrayList" e := fa_c (Or.inr ⟨(show (265 : Nat) ≠ 9999 by decide), mE265, 0, 2000, 0, rfl, rfl, mK265.1, mK265.2, Or.inl (gw (tw2 (i := 77) rfl) rfl)⟩) (fa_c (Or.inr ⟨(show (272 : Nat) ≠ 9999 by decide), mE272, 3, 0, 0, rfl, rfl, mK272.1, mK272.2, Or.inl (gw (tw3 (i := 80) rfl) rfl)⟩) (fa_c (Or.inr ⟨(show (268 : Nat) ≠ 9999 by decide), mE268, 0, 0, 3, rfl, rfl, mK268.1, mK268.2, Or.inl (gw (tw3 (i := 84) rfl) rfl)⟩) (fa_c (Or.inr ⟨(show (267 : Nat) ≠ 9999 by decide), mE267, 1, 0, 3, rfl, rfl, mK267.1, mK267.2, Or.inl (gw (tw3 (i := 88) rfl) rfl)⟩) (fa_c (Or.inr ⟨(show (278 : Nat) ≠ 9999 by decide), mE278, 3, 1000, 1, rfl, rfl, mK278.1, mK278.2, Or.inl (gw (tw3 (i := 92) rfl) rfl)⟩) (fa_c (Or.inr ⟨(show (274 : Nat) ≠ 9999 by decide), mE274, 2, 1000, 3, rfl, rfl, mK274.1, mK274.2, Or.inl (gw (tw3 (i := 102) rfl) rfl)⟩) (fa_c (Or.inr ⟨(show (250 : Nat) ≠ 9999 by decide), mE250, 2, 1000, 1, rfl, rfl, mK250.1, mK250.2, Or.inl (gw (tw3 (i := 135) rfl) rfl)⟩) (fa_c (Or.inr ⟨(show (277 : Nat) ≠ 9999 by decide), mE277, 2, 1000, 1, rfl, rfl, mK277.1, mK277.2, Or.inl (gw (tw3 (i := 159) rfl) rfl)⟩) (fa_c (Or.inr ⟨(show (270 : Nat) ≠ 9999 by decide), mE270, 1, 0, 3, rfl, rfl, mK270.1, mK270.2, Or.inl (gw (tw3 (i := 163) rfl) rfl)⟩) fa_0))))))))
theorem pj5_k : ∀ e ∈ pj5.2.2.1, KOK "java/util/ArrayList" e := fa_c (⟨fun h => absurd h (by decide), fun _ => gw (tw3 (i := 136) rfl) rfl⟩) fa_0
theorem pj5_i : ∀ e ∈ pj5.2.2.2.1, Cond.constant "java/util/ArrayList" e.1 e.2 ∈ gW := fa_0
theorem pj5_j : ∀ e ∈ pj5.2.2.2.2.1, Cond.constantLong "java/util/ArrayList" e.1 e.2 ∈ gW := fa_0
theorem pj5_s : ∀ e ∈ pj5.2.2.2.2.2.1, ∃ tx, ("java/util/ArrayList", e.1, tx, e.2) ∈ strL := fa_0
theorem pj5_g : ∀ e ∈ pj5.2.2.2.2.2.2, ∃ c n dsc, (c, n, dsc, e.2) ∈ stL ∧ Cond.fieldLink "java/util/ArrayList" e.1 c n dsc ∈ gW := fa_c (⟨"java/util/ArrayList", "DEFAULTCAPACITY_EMPTY_ELEMENTDATA", "[Ljava/lang/Object;", by decide +kernel, gw (tw2 (i := 84) rfl) rfl⟩) fa_0
theorem pj5_ok : PoolOK "java/util/ArrayList" pj5 mtab mt := pool_of pj5_f pj5_m pj5_k pj5_i pj5_j pj5_s pj5_g
def pj6 : Pool := ([(7, 0, 0, 1)], [(1, 264)], [], [], [], [], [])
theorem pj6_f : ∀ e ∈ pj6.1, FOK "java/util/AbstractList" e := fa_c (⟨by decide, _, cl0, by decide, Or.inl (gw (tw2 (i := 88) rfl) rfl), fun h => ⟨rfl, gw (tw2 (i := 88) rfl) rfl⟩⟩) fa_0
theorem pj6_m : ∀ e ∈ pj6.2.1, MOK "java/util/AbstractList" e := fa_c (Or.inr ⟨(show (264 : Nat) ≠ 9999 by decide), mE264, 0, 2000, 0, rfl, rfl, mK264.1, mK264.2, Or.inl (gw (tw2 (i := 80) rfl) rfl)⟩) fa_0
theorem pj6_k : ∀ e ∈ pj6.2.2.1, KOK "java/util/AbstractList" e := fa_0
theorem pj6_i : ∀ e ∈ pj6.2.2.2.1, Cond.constant "java/util/AbstractList" e.1 e.2 ∈ gW := fa_0
theorem pj6_j : ∀ e ∈ pj6.2.2.2.2.1, Cond.constantLong "java/util/AbstractList" e.1 e.2 ∈ gW := fa_0
theorem pj6_s : ∀ e ∈ pj6.2.2.2.2.2.1, ∃ tx, ("java/util/AbstractList", e.1, tx, e.2) ∈ strL := fa_0
theorem pj6_g : ∀ e ∈ pj6.2.2.2.2.2.2, ∃ c n dsc, (c, n, dsc, e.2) ∈ stL ∧ Cond.fieldLink "java/util/AbstractList" e.1 c n dsc ∈ gW := fa_0
theorem pj6_ok : PoolOK "java/util/AbstractList" pj6 mtab mt := pool_of pj6_f pj6_m pj6_k pj6_i pj6_j pj6_s pj6_g
def pj7 : Pool := ([], [(1, 9999)], [], [], [], [], [])
theorem pj7_f : ∀ e ∈ pj7.1, FOK "java/util/AbstractCollection" e := fa_0
theorem pj7_m : ∀ e ∈ pj7.2.1, MOK "java/util/AbstractCollection" e := fa_c (Or.inl ⟨rfl, mt_no, gw (tw2 (i := 83) rfl) rfl, gw (tw1 (i := 41) rfl) rfl, gw (tw1 (i := 42) rfl) rfl⟩) fa_0
theorem pj7_k : ∀ e ∈ pj7.2.2.1, KOK "java/util/AbstractCollection" e := fa_0
theorem pj7_i : ∀ e ∈ pj7.2.2.2.1, Cond.constant "java/util/AbstractCollection" e.1 e.2 ∈ gW := fa_0
theorem pj7_j : ∀ e ∈ pj7.2.2.2.2.1, Cond.constantLong "java/util/AbstractCollection" e.1 e.2 ∈ gW := fa_0
theorem pj7_s : ∀ e ∈ pj7.2.2.2.2.2.1, ∃ tx, ("java/util/AbstractCollection", e.1, tx, e.2) ∈ strL := fa_0
theorem pj7_g : ∀ e ∈ pj7.2.2.2.2.2.2, ∃ c n dsc, (c, n, dsc, e.2) ∈ stL ∧ Cond.fieldLink "java/util/AbstractCollection" e.1 c n dsc ∈ gW := fa_0
theorem pj7_ok : PoolOK "java/util/AbstractCollection" pj7 mtab mt := pool_of pj7_f pj7_m pj7_k pj7_i pj7_j pj7_s pj7_g
def pj8 : Pool := ([], [(304, 252), (300, 275)], [(2, 300)], [], [], [], [])
theorem pj8_f : ∀ e ∈ pj8.1, FOK "java/util/Arrays" e := fa_0
theorem pj8_m : ∀ e ∈ pj8.2.1, MOK "java/util/Arrays" e := fa_c (Or.inr ⟨(show (252 : Nat) ≠ 9999 by decide), mE252, 2, 1000, 1, rfl, rfl, mK252.1, mK252.2, Or.inl (gw (tw3 (i := 56) rfl) rfl)⟩) (fa_c (Or.inr ⟨(show (275 : Nat) ≠ 9999 by decide), mE275, 3, 1000, 3, rfl, rfl, mK275.1, mK275.2, Or.inl (gw (tw3 (i := 129) rfl) rfl)⟩) fa_0)
theorem pj8_k : ∀ e ∈ pj8.2.2.1, KOK "java/util/Arrays" e := fa_c (⟨fun h => absurd h (by decide), fun _ => gw (tw3 (i := 134) rfl) rfl⟩) fa_0
theorem pj8_i : ∀ e ∈ pj8.2.2.2.1, Cond.constant "java/util/Arrays" e.1 e.2 ∈ gW := fa_0
theorem pj8_j : ∀ e ∈ pj8.2.2.2.2.1, Cond.constantLong "java/util/Arrays" e.1 e.2 ∈ gW := fa_0
theorem pj8_s : ∀ e ∈ pj8.2.2.2.2.2.1, ∃ tx, ("java/util/Arrays", e.1, tx, e.2) ∈ strL := fa_0
theorem pj8_g : ∀ e ∈ pj8.2.2.2.2.2.2, ∃ c n dsc, (c, n, dsc, e.2) ∈ stL ∧ Cond.fieldLink "java/util/Arrays" e.1 c n dsc ∈ gW := fa_0
theorem pj8_ok : PoolOK "java/util/Arrays" pj8 mtab mt := pool_of pj8_f pj8_m pj8_k pj8_i pj8_j pj8_s pj8_g
def k254 : Code1 := [(0, .aload_n 0, 1), (1, .getfield 9, 3), (4, .arraylength, 1), (5, .aload_n 0, 1), (6, .invokevirtual 335, 3), (9, .ishr, 1), (10, .ireturn, 1)]
def X254 : MT := (k254, pj0, (some FieldType.int), false, [])
theorem k254_d : ∀ q ∈ k254, decode cJ0_length_8abf5 q.1 = .ok q.2 := by decide +kernel
theorem X254_ok : CodeOK (Mof mE254) X254 := ⟨code_1 k254_d (by decide +kernel), rfl, fun h => absurd h (by decide), Or.inl ⟨rfl, rfl⟩, thr_0 (by decide +kernel)⟩
def k255 : Code1 := [(0, .aload_n 0, 1), (1, .invokevirtual 492, 3), (4, .ifCond .eq 12, 3), (7, .aload_n 0, 1), (8, .getfield 9, 3), (11, .iload_n 1, 1), (12, .invokestatic 495, 3), (15, .ireturn, 1), (16, .aload_n 0, 1), (17, .getfield 9, 3), (20, .iload_n 1, 1), (21, .invokestatic 498, 3), (24, .ireturn, 1)]
def X255 : MT := (k255, pj0, (some FieldType.char), false, [])
theorem k255_d : ∀ q ∈ k255, decode cJ0_charAt_5068e q.1 = .ok q.2 := by decide +kernel
theorem X255_ok : CodeOK (Mof mE255) X255 := ⟨code_1 k255_d (by decide +kernel), rfl, fun h => absurd h (by decide), Or.inl ⟨rfl, rfl⟩, thr_0 (by decide +kernel)⟩
def k256 : Code1 := [(0, .getstatic 38, 3), (3, .ifCond .eq 10, 3), (6, .aload_n 0, 1), (7, .getfield 15, 3), (10, .goto 4, 3), (13, .iconst 1, 1), (14, .ireturn, 1)]
def X256 : MT := (k256, pj0, (some FieldType.byte), false, [])
theorem k256_d : ∀ q ∈ k256, decode cJ0_coder_7d493 q.1 = .ok q.2 := by decide +kernel
theorem X256_ok : CodeOK (Mof mE256) X256 := ⟨code_1 k256_d (by decide +kernel), rfl, fun h => absurd h (by decide), Or.inl ⟨rfl, rfl⟩, thr_0 (by decide +kernel)⟩
def k257 : Code1 := [(0, .getstatic 38, 3), (3, .ifCond .eq 14, 3), (6, .aload_n 0, 1), (7, .getfield 15, 3), (10, .ifCond .ne 7, 3), (13, .iconst 1, 1), (14, .goto 4, 3), (17, .iconst 0, 1), (18, .ireturn, 1)]
def X257 : MT := (k257, pj0, (some FieldType.boolean), false, [])
theorem k257_d : ∀ q ∈ k257, decode cJ0_isLatin1_aae02 q.1 = .ok q.2 := by decide +kernel
theorem X257_ok : CodeOK (Mof mE257) X257 := ⟨code_1 k257_d (by decide +kernel), rfl, fun h => absurd h (by decide), Or.inl ⟨rfl, rfl⟩, thr_0 (by decide +kernel)⟩
def k258 : Code1 := [(0, .iload_n 0, 1), (1, .iload_n 1, 1), (2, .getstatic 1053, 3), (5, .invokestatic 1059, 3), (8, .pop, 1), (9, .return_, 1)]
def X258 : MT := (k258, pj0, none, false, [])
theorem k258_d : ∀ q ∈ k258, decode cJ0_checkIndex_df160 q.1 = .ok q.2 := by decide +kernel
theorem X258_ok : CodeOK (Mof mE258) X258 := ⟨code_1 k258_d (by decide +kernel), rfl, fun h => absurd h (by decide), Or.inl ⟨rfl, rfl⟩, thr_0 (by decide +kernel)⟩
def k259 : Code1 := [(0, .iload_n 1, 1), (1, .aload_n 0, 1), (2, .arraylength, 1), (3, .invokestatic 9, 3), (6, .aload_n 0, 1), (7, .iload_n 1, 1), (8, .baload, 1), (9, .sipush 255, 3), (12, .iand, 1), (13, .i2c, 1), (14, .ireturn, 1)]
def X259 : MT := (k259, pj1, (some FieldType.char), false, [])
theorem k259_d : ∀ q ∈ k259, decode cJ1_charAt_3b067 q.1 = .ok q.2 := by decide +kernel
theorem X259_ok : CodeOK (Mof mE259) X259 := ⟨code_1 k259_d (by decide +kernel), rfl, fun h => absurd h (by decide), Or.inl ⟨rfl, rfl⟩, thr_0 (by decide +kernel)⟩
def k264 : Code1 := [(0, .aload_n 0, 1), (1, .invokespecial 1, 3), (4, .return_, 1)]
def X264 : MT := (k264, pj7, none, true, [])
theorem k264_d : ∀ q ∈ k264, decode cJxa1e45_init_da8c8 q.1 = .ok q.2 := by decide +kernel
theorem X264_ok : CodeOK (Mof mE264) X264 := ⟨code_1 k264_d (by decide +kernel), rfl, fun _ => rfl, Or.inl ⟨rfl, rfl⟩, thr_0 (by decide +kernel)⟩
def k265 : Code1 := [(0, .aload_n 0, 1), (1, .invokespecial 1, 3), (4, .aload_n 0, 1), (5, .iconst 0, 1), (6, .putfield 7, 3), (9, .return_, 1)]
def X265 : MT := (k265, pj6, none, true, [])
theorem k265_d : ∀ q ∈ k265, decode cJxc12de_init_da8c8 q.1 = .ok q.2 := by decide +kernel
theorem X265_ok : CodeOK (Mof mE265) X265 := ⟨code_1 k265_d (by decide +kernel), rfl, fun _ => rfl, Or.inl ⟨rfl, rfl⟩, thr_0 (by decide +kernel)⟩
def k266 : Code1 := [(0, .aload_n 0, 1), (1, .invokespecial 1, 3), (4, .aload_n 0, 1), (5, .getstatic 39, 3), (8, .putfield 9, 3), (11, .return_, 1)]
def X266 : MT := (k266, pj5, none, true, [])
theorem k266_d : ∀ q ∈ k266, decode cJx4a65c_init_da8c8 q.1 = .ok q.2 := by decide +kernel
theorem X266_ok : CodeOK (Mof mE266) X266 := ⟨code_1 k266_d (by decide +kernel), rfl, fun _ => rfl, Or.inl ⟨rfl, rfl⟩, thr_0 (by decide +kernel)⟩
def k267 : Code1 := [(0, .aload_n 0, 1), (1, .getfield 9, 3), (4, .arraylength, 1), (5, .istore_n 2, 1), (6, .iload_n 2, 1), (7, .ifCond .gt 13, 3), (10, .aload_n 0, 1), (11, .getfield 9, 3), (14, .getstatic 39, 3), (20, .iload_n 2, 1), (21, .iload_n 1, 1), (22, .iload_n 2, 1), (23, .isub, 1), (24, .iload_n 2, 1), (25, .iconst 1, 1), (26, .ishr, 1), (27, .invokestatic 73, 3), (30, .istore_n 3, 1), (31, .aload_n 0, 1), (32, .aload_n 0, 1), (33, .getfield 9, 3), (36, .iload_n 3, 1), (37, .invokestatic 66, 3), (40, .dup_x1, 1), (41, .putfield 9, 3), (44, .areturn, 1), (45, .aload_n 0, 1), (46, .bipush 10, 2), (48, .iload_n 1, 1), (49, .invokestatic 79, 3), (52, .anewarray 7, 3), (55, .dup_x1, 1), (56, .putfield 9, 3), (59, .areturn, 1)]
def X267 : MT := (k267, pj5, (some (FieldType.array (FieldType.object "java/lang/Object"))), false, [])
theorem k267_d : ∀ q ∈ k267, decode cJx4a65c_grow_92f84 q.1 = .ok q.2 := by decide +kernel
theorem X267_ok : CodeOK (Mof mE267) X267 := ⟨code_1 k267_d (by decide +kernel), rfl, fun h => absurd h (by decide), Or.inl ⟨rfl, rfl⟩, thr_0 (by decide +kernel)⟩
def k268 : Code1 := [(0, .aload_n 0, 1), (1, .aload_n 0, 1), (2, .getfield 48, 3), (5, .iconst 1, 1), (6, .iadd, 1), (7, .invokevirtual 69, 3), (10, .areturn, 1)]
def X268 : MT := (k268, pj5, (some (FieldType.array (FieldType.object "java/lang/Object"))), false, [])
theorem k268_d : ∀ q ∈ k268, decode cJx4a65c_grow_d5877 q.1 = .ok q.2 := by decide +kernel
theorem X268_ok : CodeOK (Mof mE268) X268 := ⟨code_1 k268_d (by decide +kernel), rfl, fun h => absurd h (by decide), Or.inl ⟨rfl, rfl⟩, thr_0 (by decide +kernel)⟩
def k269 : Code1 := [(0, .aload_n 0, 1), (1, .getfield 48, 3), (4, .ireturn, 1)]
def X269 : MT := (k269, pj5, (some FieldType.int), false, [])
theorem k269_d : ∀ q ∈ k269, decode cJx4a65c_size_8abf5 q.1 = .ok q.2 := by decide +kernel
theorem X269_ok : CodeOK (Mof mE269) X269 := ⟨code_1 k269_d (by decide +kernel), rfl, fun h => absurd h (by decide), Or.inl ⟨rfl, rfl⟩, thr_0 (by decide +kernel)⟩
def k270 : Code1 := [(0, .aload_n 0, 1), (1, .getfield 9, 3), (4, .iload_n 1, 1), (5, .aaload, 1), (6, .areturn, 1)]
def X270 : MT := (k270, pj5, (some (FieldType.object "java/lang/Object")), false, [])
theorem k270_d : ∀ q ∈ k270, decode cJx4a65c_elementData_915e3 q.1 = .ok q.2 := by decide +kernel
theorem X270_ok : CodeOK (Mof mE270) X270 := ⟨code_1 k270_d (by decide +kernel), rfl, fun h => absurd h (by decide), Or.inl ⟨rfl, rfl⟩, thr_0 (by decide +kernel)⟩
def k271 : Code1 := [(0, .iload_n 1, 1), (1, .aload_n 0, 1), (2, .getfield 48, 3), (5, .invokestatic 118, 3), (8, .pop, 1), (9, .aload_n 0, 1), (10, .iload_n 1, 1), (11, .invokevirtual 123, 3), (14, .areturn, 1)]
def X271 : MT := (k271, pj5, (some (FieldType.object "java/lang/Object")), false, [])
theorem k271_d : ∀ q ∈ k271, decode cJx4a65c_get_915e3 q.1 = .ok q.2 := by decide +kernel
theorem X271_ok : CodeOK (Mof mE271) X271 := ⟨code_1 k271_d (by decide +kernel), rfl, fun h => absurd h (by decide), Or.inl ⟨rfl, rfl⟩, thr_0 (by decide +kernel)⟩
def k272 : Code1 := [(0, .iload_n 3, 1), (1, .aload_n 2, 1), (2, .arraylength, 1), (3, .if_icmp .ne 8, 3), (6, .aload_n 0, 1), (7, .invokevirtual 129, 3), (10, .astore_n 2, 1), (11, .aload_n 2, 1), (12, .iload_n 3, 1), (13, .aload_n 1, 1), (14, .aastore, 1), (15, .aload_n 0, 1), (16, .iload_n 3, 1), (17, .iconst 1, 1), (18, .iadd, 1), (19, .putfield 48, 3), (22, .return_, 1)]
def X272 : MT := (k272, pj5, none, false, [])
theorem k272_d : ∀ q ∈ k272, decode cJx4a65c_add_72be8 q.1 = .ok q.2 := by decide +kernel
theorem X272_ok : CodeOK (Mof mE272) X272 := ⟨code_1 k272_d (by decide +kernel), rfl, fun h => absurd h (by decide), Or.inl ⟨rfl, rfl⟩, thr_0 (by decide +kernel)⟩
def k273 : Code1 := [(0, .aload_n 0, 1), (1, .dup, 1), (2, .getfield 63, 3), (5, .iconst 1, 1), (6, .iadd, 1), (7, .putfield 63, 3), (10, .aload_n 0, 1), (11, .aload_n 1, 1), (12, .aload_n 0, 1), (13, .getfield 9, 3), (16, .aload_n 0, 1), (17, .getfield 48, 3), (20, .invokevirtual 131, 3), (23, .iconst 1, 1), (24, .ireturn, 1)]
def X273 : MT := (k273, pj5, (some FieldType.boolean), false, [])
theorem k273_d : ∀ q ∈ k273, decode cJx4a65c_add_9ea2d q.1 = .ok q.2 := by decide +kernel
theorem X273_ok : CodeOK (Mof mE273) X273 := ⟨code_1 k273_d (by decide +kernel), rfl, fun h => absurd h (by decide), Or.inl ⟨rfl, rfl⟩, thr_0 (by decide +kernel)⟩
def k274 : Code1 := [(0, .aload_n 0, 1), (1, .iload_n 1, 1), (2, .aload_n 0, 1), (3, .invokevirtual 86, 3), (6, .invokestatic 300, 3), (9, .areturn, 1)]
def X274 : MT := (k274, pj8, (some (FieldType.array (FieldType.object "java/lang/Object"))), false, [])
theorem k274_d : ∀ q ∈ k274, decode cJ7_copyOf_1904c q.1 = .ok q.2 := by decide +kernel
theorem X274_ok : CodeOK (Mof mE274) X274 := ⟨code_1 k274_d (by decide +kernel), rfl, fun h => absurd h (by decide), Or.inl ⟨rfl, rfl⟩, thr_0 (by decide +kernel)⟩
def k275 : Code1 := [(0, .aload_n 2, 1), (1, .ldc 110, 2), (6, .iload_n 1, 1), (7, .anewarray 2, 3), (10, .goto 14, 3), (13, .aload_n 2, 1), (14, .invokevirtual 90, 3), (17, .iload_n 1, 1), (18, .invokestatic 95, 3), (21, .checkcast 110, 3), (24, .astore_n 3, 1), (25, .aload_n 0, 1), (26, .iconst 0, 1), (27, .aload_n 3, 1), (28, .iconst 0, 1), (29, .aload_n 0, 1), (30, .arraylength, 1), (31, .iload_n 1, 1), (32, .invokestatic 304, 3), (35, .invokestatic 150, 3), (38, .aload_n 3, 1), (39, .areturn, 1)]
def X275 : MT := (k275, pj8, (some (FieldType.array (FieldType.object "java/lang/Object"))), false, [])
theorem k275_d : ∀ q ∈ k275, decode cJ7_copyOf_6403c q.1 = .ok q.2 := by decide +kernel
theorem X275_ok : CodeOK (Mof mE275) X275 := ⟨code_1 k275_d (by decide +kernel), rfl, fun h => absurd h (by decide), Or.inl ⟨rfl, rfl⟩, thr_0 (by decide +kernel)⟩
def k276 : Code1 := [(0, .iload_n 1, 1), (1, .aload_n 0, 1), (2, .arraylength, 1), (3, .if_icmp .ne 11, 3), (6, .aload_n 0, 1), (7, .invokevirtual 316, 3), (10, .checkcast 317, 3), (13, .areturn, 1), (14, .iload_n 1, 1), (15, .newarray .int, 2), (17, .astore_n 2, 1), (18, .aload_n 0, 1), (19, .iconst 0, 1), (20, .aload_n 2, 1), (21, .iconst 0, 1), (22, .aload_n 0, 1), (23, .arraylength, 1), (24, .iload_n 1, 1), (25, .invokestatic 304, 3), (28, .invokestatic 150, 3), (31, .aload_n 2, 1), (32, .areturn, 1)]
def X276 : MT := (k276, pj8, (some (FieldType.array FieldType.int)), false, [])
theorem k276_d : ∀ q ∈ k276, decode cJ7_copyOf_59c91 q.1 = .ok q.2 := by decide +kernel
theorem X276_ok : CodeOK (Mof mE276) X276 := ⟨code_1 k276_d (by decide +kernel), rfl, fun h => absurd h (by decide), Or.inl ⟨rfl, rfl⟩, thr_0 (by decide +kernel)⟩
def k277 : Code1 := [(0, .iload_n 0, 1), (1, .iload_n 1, 1), (2, .aconst_null, 1), (3, .invokestatic 105, 3), (6, .ireturn, 1)]
def X277 : MT := (k277, pj2, (some FieldType.int), false, [])
theorem k277_d : ∀ q ∈ k277, decode cJ15_checkIndex_7cf53 q.1 = .ok q.2 := by decide +kernel
theorem X277_ok : CodeOK (Mof mE277) X277 := ⟨code_1 k277_d (by decide +kernel), rfl, fun h => absurd h (by decide), Or.inl ⟨rfl, rfl⟩, thr_0 (by decide +kernel)⟩
def k278 : Code1 := [(0, .iload_n 0, 1), (1, .iload_n 1, 1), (2, .iload_n 2, 1), (3, .invokestatic 194, 3), (6, .iadd, 1), (7, .istore_n 3, 1), (8, .iconst 0, 1), (9, .iload_n 3, 1), (10, .if_icmp .ge 11, 3), (13, .iload_n 3, 1), (14, .ldc 200, 2), (16, .if_icmp .gt 5, 3), (19, .iload_n 3, 1), (20, .ireturn, 1), (21, .iload_n 0, 1), (22, .iload_n 1, 1), (23, .invokestatic 201, 3), (26, .ireturn, 1)]
def X278 : MT := (k278, pj4, (some FieldType.int), false, [])
theorem k278_d : ∀ q ∈ k278, decode cJ8_newLength_cabcc q.1 = .ok q.2 := by decide +kernel
theorem X278_ok : CodeOK (Mof mE278) X278 := ⟨code_1 k278_d (by decide +kernel), rfl, fun h => absurd h (by decide), Or.inl ⟨rfl, rfl⟩, thr_0 (by decide +kernel)⟩
def k279 : Code1 := [(0, .iload_n 0, 1), (1, .iload_n 1, 1), (2, .iadd, 1), (3, .istore_n 2, 1), (4, .iload_n 2, 1), (5, .ifCond .ge 44, 3), (8, .new 204, 3), (11, .dup, 1), (12, .new 89, 3), (15, .dup, 1), (16, .invokespecial 91, 3), (19, .ldc 206, 2), (21, .invokevirtual 94, 3), (24, .iload_n 0, 1), (25, .invokevirtual 98, 3), (28, .ldc 208, 2), (30, .invokevirtual 94, 3), (33, .iload_n 1, 1), (34, .invokevirtual 98, 3), (37, .ldc 210, 2), (39, .invokevirtual 94, 3), (42, .invokevirtual 101, 3), (45, .invokespecial 212, 3), (48, .athrow, 1), (49, .iload_n 2, 1), (50, .ldc 200, 2), (52, .if_icmp .gt 6, 3), (55, .ldc 200, 2), (57, .ireturn, 1), (58, .iload_n 2, 1), (59, .ireturn, 1)]
def X279 : MT := (k279, pj4, (some FieldType.int), false, [])
theorem k279_d : ∀ q ∈ k279, decode cJ8_hugeLength_7cf53 q.1 = .ok q.2 := by decide +kernel
theorem X279_ok : CodeOK (Mof mE279) X279 := ⟨code_1 k279_d (by decide +kernel), rfl, fun h => absurd h (by decide), Or.inl ⟨rfl, rfl⟩, thr_0 (by decide +kernel)⟩
def k280 : Code1 := [(0, .iload_n 0, 1), (1, .ifCond .lt 8, 3), (4, .iload_n 0, 1), (5, .iload_n 1, 1), (6, .if_icmp .lt 10, 3), (9, .aload_n 2, 1), (10, .iload_n 0, 1), (11, .iload_n 1, 1), (12, .invokestatic 95, 3), (15, .athrow, 1), (16, .iload_n 0, 1), (17, .ireturn, 1)]
def X280 : MT := (k280, pj3, (some FieldType.int), false, [])
theorem k280_d : ∀ q ∈ k280, decode cJ3_checkIndex_8e157 q.1 = .ok q.2 := by decide +kernel
theorem X280_ok : CodeOK (Mof mE280) X280 := ⟨code_1 k280_d (by decide +kernel), rfl, fun h => absurd h (by decide), Or.inl ⟨rfl, rfl⟩, thr_0 (by decide +kernel)⟩
theorem kx267 : decode cJx4a65c_grow_92f84 17 = .ok (.if_acmp .eq 28, 3) := by decide +kernel
theorem kx275 : decode cJ7_copyOf_6403c 3 = .ok (.if_acmp .ne 10, 3) := by decide +kernel
