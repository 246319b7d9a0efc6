/-! The tables, on: links. -/
theorem mt_ty0 : mt_ty[0]? = some (100, .int) := rfl
theorem mt_ty1 : mt_ty[1]? = some (101, .boolean) := rfl
theorem mt_ty2 : mt_ty[2]? = some (102, .char) := rfl
theorem mt_ty3 : mt_ty[3]? = some (200, .object "HealBench$Test") := rfl
theorem mt_ty4 : mt_ty[4]? = some (201, .object "HealBench$Sum") := rfl
theorem mt_arr0 : Cond.arrayClass .int ∈ mt_TB := mt_in 78 (by decide +kernel) rfl
theorem mt_arr1 : Cond.arrayClass .boolean ∈ mt_TB := mt_in 212 (by decide +kernel) rfl
theorem mt_arr2 : Cond.arrayClass .char ∈ mt_TB := mt_in 241 (by decide +kernel) rfl
set_option maxRecDepth 100000 in
theorem mt_F_r0 : mt_Pf (((1, 10), (0, 0))) := ⟨("HealBench", mt_F0, 9), rfl, by decide, Or.inl (mt_in 213 (by decide +kernel) rfl)⟩
set_option maxRecDepth 100000 in
theorem mt_F_r1 : mt_Pf (((1, 21), (0, 1))) := ⟨("HealBench", mt_F0, 9), rfl, by decide, Or.inl (mt_in 214 (by decide +kernel) rfl)⟩
set_option maxRecDepth 100000 in
theorem mt_F_r2 : mt_Pf (((1, 28), (0, 2))) := ⟨("HealBench", mt_F0, 9), rfl, by decide, Or.inl (mt_in 215 (by decide +kernel) rfl)⟩
set_option maxRecDepth 100000 in
theorem mt_F_r3 : mt_Pf (((1, 37), (0, 3))) := ⟨("HealBench", mt_F0, 9), rfl, by decide, Or.inl (mt_in 216 (by decide +kernel) rfl)⟩
set_option maxRecDepth 100000 in
theorem mt_F_r4 : mt_Pf (((1, 41), (0, 4))) := ⟨("HealBench", mt_F0, 9), rfl, by decide, Or.inl (mt_in 217 (by decide +kernel) rfl)⟩
set_option maxRecDepth 100000 in
theorem mt_F_r5 : mt_Pf (((1, 55), (0, 6))) := ⟨("HealBench", mt_F0, 9), rfl, by decide, Or.inl (mt_in 219 (by decide +kernel) rfl)⟩
set_option maxRecDepth 100000 in
theorem mt_F_r6 : mt_Pf (((1, 62), (2, 5))) := ⟨("HealBench$Graph", mt_F2, 6), rfl, by decide, Or.inr ⟨"HealBench", mt_nin 63 (by decide +kernel) rfl⟩⟩
set_option maxRecDepth 100000 in
theorem mt_F_r7 : mt_Pf (((1, 76), (2, 4))) := ⟨("HealBench$Graph", mt_F2, 6), rfl, by decide, Or.inr ⟨"HealBench", mt_nin 61 (by decide +kernel) rfl⟩⟩
set_option maxRecDepth 100000 in
theorem mt_F_r8 : mt_Pf (((1, 79), (0, 5))) := ⟨("HealBench", mt_F0, 9), rfl, by decide, Or.inl (mt_in 218 (by decide +kernel) rfl)⟩
set_option maxRecDepth 100000 in
theorem mt_F_r9 : mt_Pf (((1, 86), (7, 2))) := ⟨("HealBench$Rules", mt_F7, 5), rfl, by decide, Or.inr ⟨"HealBench", mt_nin 128 (by decide +kernel) rfl⟩⟩
set_option maxRecDepth 100000 in
theorem mt_F_r10 : mt_Pf (((1, 106), (6, 2))) := ⟨("HealBench$Reader", mt_F6, 3), rfl, by decide, Or.inr ⟨"HealBench", mt_nin 303 (by decide +kernel) rfl⟩⟩
set_option maxRecDepth 100000 in
theorem mt_F_r11 : mt_Pf (((1, 123), (8, 12))) := ⟨("HealBench$Search", mt_F8, 18), rfl, by decide, Or.inr ⟨"HealBench", mt_nin 166 (by decide +kernel) rfl⟩⟩
set_option maxRecDepth 100000 in
theorem mt_F_r12 : mt_Pf (((1, 126), (2, 3))) := ⟨("HealBench$Graph", mt_F2, 6), rfl, by decide, Or.inr ⟨"HealBench", mt_nin 59 (by decide +kernel) rfl⟩⟩
set_option maxRecDepth 100000 in
theorem mt_F_r13 : mt_Pf (((1, 133), (2, 1))) := ⟨("HealBench$Graph", mt_F2, 6), rfl, by decide, Or.inr ⟨"HealBench", mt_nin 48 (by decide +kernel) rfl⟩⟩
set_option maxRecDepth 100000 in
theorem mt_F_r14 : mt_Pf (((1, 151), (10, 4))) := ⟨("HealBench$View", mt_F10, 6), rfl, by decide, Or.inr ⟨"HealBench", mt_nin 99 (by decide +kernel) rfl⟩⟩
set_option maxRecDepth 100000 in
theorem mt_F_r15 : mt_Pf (((1, 157), (2, 2))) := ⟨("HealBench$Graph", mt_F2, 6), rfl, by decide, Or.inr ⟨"HealBench", mt_nin 54 (by decide +kernel) rfl⟩⟩
set_option maxRecDepth 100000 in
theorem mt_F_r16 : mt_Pf (((1, 160), (10, 3))) := ⟨("HealBench$View", mt_F10, 6), rfl, by decide, Or.inr ⟨"HealBench", mt_nin 96 (by decide +kernel) rfl⟩⟩
set_option maxRecDepth 100000 in
theorem mt_F_r17 : mt_Pf (((1, 163), (0, 8))) := ⟨("HealBench", mt_F0, 9), rfl, by decide, Or.inl (mt_in 221 (by decide +kernel) rfl)⟩
set_option maxRecDepth 100000 in
theorem mt_F_r18 : mt_Pf (((1, 166), (0, 7))) := ⟨("HealBench", mt_F0, 9), rfl, by decide, Or.inl (mt_in 220 (by decide +kernel) rfl)⟩
set_option maxRecDepth 100000 in
theorem mt_F_r19 : mt_Pf (((1, 176), (8, 13))) := ⟨("HealBench$Search", mt_F8, 18), rfl, by decide, Or.inr ⟨"HealBench", mt_nin 168 (by decide +kernel) rfl⟩⟩
set_option maxRecDepth 100000 in
theorem mt_F_r20 : mt_Pf (((1, 179), (8, 14))) := ⟨("HealBench$Search", mt_F8, 18), rfl, by decide, Or.inr ⟨"HealBench", mt_nin 170 (by decide +kernel) rfl⟩⟩
set_option maxRecDepth 100000 in
theorem mt_F_r21 : mt_Pf (((1, 182), (8, 6))) := ⟨("HealBench$Search", mt_F8, 18), rfl, by decide, Or.inr ⟨"HealBench", mt_nin 157 (by decide +kernel) rfl⟩⟩
set_option maxRecDepth 100000 in
theorem mt_F_r22 : mt_Pf (((1, 185), (8, 11))) := ⟨("HealBench$Search", mt_F8, 18), rfl, by decide, Or.inr ⟨"HealBench", mt_nin 164 (by decide +kernel) rfl⟩⟩
set_option maxRecDepth 100000 in
theorem mt_F_r23 : mt_Pf (((1, 188), (8, 10))) := ⟨("HealBench$Search", mt_F8, 18), rfl, by decide, Or.inr ⟨"HealBench", mt_nin 162 (by decide +kernel) rfl⟩⟩
def mt_F_0 : List ((Nat × Nat) × (Nat × Nat)) := [((1, 10), (0, 0)), ((1, 21), (0, 1)), ((1, 28), (0, 2)), ((1, 37), (0, 3)), ((1, 41), (0, 4)), ((1, 55), (0, 6)), ((1, 62), (2, 5)), ((1, 76), (2, 4)), ((1, 79), (0, 5)), ((1, 86), (7, 2)), ((1, 106), (6, 2)), ((1, 123), (8, 12)), ((1, 126), (2, 3)), ((1, 133), (2, 1)), ((1, 151), (10, 4)), ((1, 157), (2, 2)), ((1, 160), (10, 3)), ((1, 163), (0, 8)), ((1, 166), (0, 7)), ((1, 176), (8, 13)), ((1, 179), (8, 14)), ((1, 182), (8, 6)), ((1, 185), (8, 11)), ((1, 188), (8, 10))]
theorem mt_F_a0 : ∀ e ∈ mt_F_0, mt_Pf e := List.forall_mem_cons.mpr ⟨mt_F_r0, List.forall_mem_cons.mpr ⟨mt_F_r1, List.forall_mem_cons.mpr ⟨mt_F_r2, List.forall_mem_cons.mpr ⟨mt_F_r3, List.forall_mem_cons.mpr ⟨mt_F_r4, List.forall_mem_cons.mpr ⟨mt_F_r5, List.forall_mem_cons.mpr ⟨mt_F_r6, List.forall_mem_cons.mpr ⟨mt_F_r7, List.forall_mem_cons.mpr ⟨mt_F_r8, List.forall_mem_cons.mpr ⟨mt_F_r9, List.forall_mem_cons.mpr ⟨mt_F_r10, List.forall_mem_cons.mpr ⟨mt_F_r11, List.forall_mem_cons.mpr ⟨mt_F_r12, List.forall_mem_cons.mpr ⟨mt_F_r13, List.forall_mem_cons.mpr ⟨mt_F_r14, List.forall_mem_cons.mpr ⟨mt_F_r15, List.forall_mem_cons.mpr ⟨mt_F_r16, List.forall_mem_cons.mpr ⟨mt_F_r17, List.forall_mem_cons.mpr ⟨mt_F_r18, List.forall_mem_cons.mpr ⟨mt_F_r19, List.forall_mem_cons.mpr ⟨mt_F_r20, List.forall_mem_cons.mpr ⟨mt_F_r21, List.forall_mem_cons.mpr ⟨mt_F_r22, List.forall_mem_cons.mpr ⟨mt_F_r23, fun _ h => absurd h List.not_mem_nil⟩⟩⟩⟩⟩⟩⟩⟩⟩⟩⟩⟩⟩⟩⟩⟩⟩⟩⟩⟩⟩⟩⟩⟩
set_option maxRecDepth 100000 in
theorem mt_F_r24 : mt_Pf (((1, 191), (8, 15))) := ⟨("HealBench$Search", mt_F8, 18), rfl, by decide, Or.inr ⟨"HealBench", mt_nin 172 (by decide +kernel) rfl⟩⟩
set_option maxRecDepth 100000 in
theorem mt_F_r25 : mt_Pf (((2, 7), (1, 0))) := ⟨("HealBench$Comparison", mt_F1, 3), rfl, by decide, Or.inl (mt_in 492 (by decide +kernel) rfl)⟩
set_option maxRecDepth 100000 in
theorem mt_F_r26 : mt_Pf (((2, 13), (1, 1))) := ⟨("HealBench$Comparison", mt_F1, 3), rfl, by decide, Or.inl (mt_in 493 (by decide +kernel) rfl)⟩
set_option maxRecDepth 100000 in
theorem mt_F_r27 : mt_Pf (((2, 17), (1, 2))) := ⟨("HealBench$Comparison", mt_F1, 3), rfl, by decide, Or.inl (mt_in 494 (by decide +kernel) rfl)⟩
set_option maxRecDepth 100000 in
theorem mt_F_r28 : mt_Pf (((3, 9), (2, 0))) := ⟨("HealBench$Graph", mt_F2, 6), rfl, by decide, Or.inl (mt_in 44 (by decide +kernel) rfl)⟩
set_option maxRecDepth 100000 in
theorem mt_F_r29 : mt_Pf (((3, 15), (2, 1))) := ⟨("HealBench$Graph", mt_F2, 6), rfl, by decide, Or.inl (mt_in 46 (by decide +kernel) rfl)⟩
set_option maxRecDepth 100000 in
theorem mt_F_r30 : mt_Pf (((3, 22), (2, 2))) := ⟨("HealBench$Graph", mt_F2, 6), rfl, by decide, Or.inl (mt_in 49 (by decide +kernel) rfl)⟩
set_option maxRecDepth 100000 in
theorem mt_F_r31 : mt_Pf (((3, 26), (2, 3))) := ⟨("HealBench$Graph", mt_F2, 6), rfl, by decide, Or.inl (mt_in 55 (by decide +kernel) rfl)⟩
set_option maxRecDepth 100000 in
theorem mt_F_r32 : mt_Pf (((3, 29), (2, 4))) := ⟨("HealBench$Graph", mt_F2, 6), rfl, by decide, Or.inl (mt_in 60 (by decide +kernel) rfl)⟩
set_option maxRecDepth 100000 in
theorem mt_F_r33 : mt_Pf (((3, 32), (2, 5))) := ⟨("HealBench$Graph", mt_F2, 6), rfl, by decide, Or.inl (mt_in 62 (by decide +kernel) rfl)⟩
set_option maxRecDepth 100000 in
theorem mt_F_r34 : mt_Pf (((4, 7), (3, 0))) := ⟨("HealBench$Neighbours", mt_F3, 2), rfl, by decide, Or.inl (mt_in 359 (by decide +kernel) rfl)⟩
set_option maxRecDepth 100000 in
theorem mt_F_r35 : mt_Pf (((4, 13), (3, 1))) := ⟨("HealBench$Neighbours", mt_F3, 2), rfl, by decide, Or.inl (mt_in 360 (by decide +kernel) rfl)⟩
set_option maxRecDepth 100000 in
theorem mt_F_r36 : mt_Pf (((4, 17), (10, 0))) := ⟨("HealBench$View", mt_F10, 6), rfl, by decide, Or.inr ⟨"HealBench", mt_nin 86 (by decide +kernel) rfl⟩⟩
set_option maxRecDepth 100000 in
theorem mt_F_r37 : mt_Pf (((4, 23), (2, 2))) := ⟨("HealBench$Graph", mt_F2, 6), rfl, by decide, Or.inr ⟨"HealBench", mt_nin 51 (by decide +kernel) rfl⟩⟩
set_option maxRecDepth 100000 in
theorem mt_F_r38 : mt_Pf (((4, 29), (10, 5))) := ⟨("HealBench$View", mt_F10, 6), rfl, by decide, Or.inr ⟨"HealBench", mt_nin 100 (by decide +kernel) rfl⟩⟩
set_option maxRecDepth 100000 in
theorem mt_F_r39 : mt_Pf (((5, 7), (4, 0))) := ⟨("HealBench$Not", mt_F4, 1), rfl, by decide, Or.inl (mt_in 340 (by decide +kernel) rfl)⟩
set_option maxRecDepth 100000 in
theorem mt_F_r40 : mt_Pf (((6, 7), (5, 0))) := ⟨("HealBench$Pair", mt_F5, 3), rfl, by decide, Or.inl (mt_in 508 (by decide +kernel) rfl)⟩
set_option maxRecDepth 100000 in
theorem mt_F_r41 : mt_Pf (((6, 13), (5, 1))) := ⟨("HealBench$Pair", mt_F5, 3), rfl, by decide, Or.inl (mt_in 509 (by decide +kernel) rfl)⟩
set_option maxRecDepth 100000 in
theorem mt_F_r42 : mt_Pf (((6, 16), (5, 2))) := ⟨("HealBench$Pair", mt_F5, 3), rfl, by decide, Or.inl (mt_in 510 (by decide +kernel) rfl)⟩
set_option maxRecDepth 100000 in
theorem mt_F_r43 : mt_Pf (((7, 9), (6, 2))) := ⟨("HealBench$Reader", mt_F6, 3), rfl, by decide, Or.inl (mt_in 302 (by decide +kernel) rfl)⟩
set_option maxRecDepth 100000 in
theorem mt_F_r44 : mt_Pf (((7, 15), (6, 0))) := ⟨("HealBench$Reader", mt_F6, 3), rfl, by decide, Or.inl (mt_in 300 (by decide +kernel) rfl)⟩
set_option maxRecDepth 100000 in
theorem mt_F_r45 : mt_Pf (((7, 19), (6, 1))) := ⟨("HealBench$Reader", mt_F6, 3), rfl, by decide, Or.inl (mt_in 301 (by decide +kernel) rfl)⟩
set_option maxRecDepth 100000 in
theorem mt_F_r46 : mt_Pf (((8, 11), (7, 0))) := ⟨("HealBench$Rules", mt_F7, 5), rfl, by decide, Or.inl (mt_in 125 (by decide +kernel) rfl)⟩
set_option maxRecDepth 100000 in
theorem mt_F_r47 : mt_Pf (((8, 19), (7, 1))) := ⟨("HealBench$Rules", mt_F7, 5), rfl, by decide, Or.inl (mt_in 126 (by decide +kernel) rfl)⟩
def mt_F_1 : List ((Nat × Nat) × (Nat × Nat)) := [((1, 191), (8, 15)), ((2, 7), (1, 0)), ((2, 13), (1, 1)), ((2, 17), (1, 2)), ((3, 9), (2, 0)), ((3, 15), (2, 1)), ((3, 22), (2, 2)), ((3, 26), (2, 3)), ((3, 29), (2, 4)), ((3, 32), (2, 5)), ((4, 7), (3, 0)), ((4, 13), (3, 1)), ((4, 17), (10, 0)), ((4, 23), (2, 2)), ((4, 29), (10, 5)), ((5, 7), (4, 0)), ((6, 7), (5, 0)), ((6, 13), (5, 1)), ((6, 16), (5, 2)), ((7, 9), (6, 2)), ((7, 15), (6, 0)), ((7, 19), (6, 1)), ((8, 11), (7, 0)), ((8, 19), (7, 1))]
theorem mt_F_a1 : ∀ e ∈ mt_F_1, mt_Pf e := List.forall_mem_cons.mpr ⟨mt_F_r24, List.forall_mem_cons.mpr ⟨mt_F_r25, List.forall_mem_cons.mpr ⟨mt_F_r26, List.forall_mem_cons.mpr ⟨mt_F_r27, List.forall_mem_cons.mpr ⟨mt_F_r28, List.forall_mem_cons.mpr ⟨mt_F_r29, List.forall_mem_cons.mpr ⟨mt_F_r30, List.forall_mem_cons.mpr ⟨mt_F_r31, List.forall_mem_cons.mpr ⟨mt_F_r32, List.forall_mem_cons.mpr ⟨mt_F_r33, List.forall_mem_cons.mpr ⟨mt_F_r34, List.forall_mem_cons.mpr ⟨mt_F_r35, List.forall_mem_cons.mpr ⟨mt_F_r36, List.forall_mem_cons.mpr ⟨mt_F_r37, List.forall_mem_cons.mpr ⟨mt_F_r38, List.forall_mem_cons.mpr ⟨mt_F_r39, List.forall_mem_cons.mpr ⟨mt_F_r40, List.forall_mem_cons.mpr ⟨mt_F_r41, List.forall_mem_cons.mpr ⟨mt_F_r42, List.forall_mem_cons.mpr ⟨mt_F_r43, List.forall_mem_cons.mpr ⟨mt_F_r44, List.forall_mem_cons.mpr ⟨mt_F_r45, List.forall_mem_cons.mpr ⟨mt_F_r46, List.forall_mem_cons.mpr ⟨mt_F_r47, fun _ h => absurd h List.not_mem_nil⟩⟩⟩⟩⟩⟩⟩⟩⟩⟩⟩⟩⟩⟩⟩⟩⟩⟩⟩⟩⟩⟩⟩⟩
set_option maxRecDepth 100000 in
theorem mt_F_r48 : mt_Pf (((8, 23), (7, 3))) := ⟨("HealBench$Rules", mt_F7, 5), rfl, by decide, Or.inl (mt_in 129 (by decide +kernel) rfl)⟩
set_option maxRecDepth 100000 in
theorem mt_F_r49 : mt_Pf (((8, 27), (7, 2))) := ⟨("HealBench$Rules", mt_F7, 5), rfl, by decide, Or.inl (mt_in 127 (by decide +kernel) rfl)⟩
set_option maxRecDepth 100000 in
theorem mt_F_r50 : mt_Pf (((8, 34), (7, 4))) := ⟨("HealBench$Rules", mt_F7, 5), rfl, by decide, Or.inl (mt_in 130 (by decide +kernel) rfl)⟩
set_option maxRecDepth 100000 in
theorem mt_F_r51 : mt_Pf (((8, 42), (10, 0))) := ⟨("HealBench$View", mt_F10, 6), rfl, by decide, Or.inr ⟨"HealBench", mt_nin 88 (by decide +kernel) rfl⟩⟩
set_option maxRecDepth 100000 in
theorem mt_F_r52 : mt_Pf (((8, 48), (10, 4))) := ⟨("HealBench$View", mt_F10, 6), rfl, by decide, Or.inr ⟨"HealBench", mt_nin 98 (by decide +kernel) rfl⟩⟩
set_option maxRecDepth 100000 in
theorem mt_F_r53 : mt_Pf (((8, 51), (2, 2))) := ⟨("HealBench$Graph", mt_F2, 6), rfl, by decide, Or.inr ⟨"HealBench", mt_nin 53 (by decide +kernel) rfl⟩⟩
set_option maxRecDepth 100000 in
theorem mt_F_r54 : mt_Pf (((8, 64), (10, 3))) := ⟨("HealBench$View", mt_F10, 6), rfl, by decide, Or.inr ⟨"HealBench", mt_nin 95 (by decide +kernel) rfl⟩⟩
set_option maxRecDepth 100000 in
theorem mt_F_r55 : mt_Pf (((8, 71), (2, 3))) := ⟨("HealBench$Graph", mt_F2, 6), rfl, by decide, Or.inr ⟨"HealBench", mt_nin 58 (by decide +kernel) rfl⟩⟩
set_option maxRecDepth 100000 in
theorem mt_F_r56 : mt_Pf (((8, 80), (10, 1))) := ⟨("HealBench$View", mt_F10, 6), rfl, by decide, Or.inr ⟨"HealBench", mt_nin 90 (by decide +kernel) rfl⟩⟩
set_option maxRecDepth 100000 in
theorem mt_F_r57 : mt_Pf (((8, 83), (2, 1))) := ⟨("HealBench$Graph", mt_F2, 6), rfl, by decide, Or.inr ⟨"HealBench", mt_nin 47 (by decide +kernel) rfl⟩⟩
set_option maxRecDepth 100000 in
theorem mt_F_r58 : mt_Pf (((9, 9), (8, 3))) := ⟨("HealBench$Search", mt_F8, 18), rfl, by decide, Or.inl (mt_in 153 (by decide +kernel) rfl)⟩
set_option maxRecDepth 100000 in
theorem mt_F_r59 : mt_Pf (((9, 15), (8, 4))) := ⟨("HealBench$Search", mt_F8, 18), rfl, by decide, Or.inl (mt_in 154 (by decide +kernel) rfl)⟩
set_option maxRecDepth 100000 in
theorem mt_F_r60 : mt_Pf (((9, 18), (8, 5))) := ⟨("HealBench$Search", mt_F8, 18), rfl, by decide, Or.inl (mt_in 155 (by decide +kernel) rfl)⟩
set_option maxRecDepth 100000 in
theorem mt_F_r61 : mt_Pf (((9, 22), (8, 6))) := ⟨("HealBench$Search", mt_F8, 18), rfl, by decide, Or.inl (mt_in 156 (by decide +kernel) rfl)⟩
set_option maxRecDepth 100000 in
theorem mt_F_r62 : mt_Pf (((9, 25), (8, 7))) := ⟨("HealBench$Search", mt_F8, 18), rfl, by decide, Or.inl (mt_in 158 (by decide +kernel) rfl)⟩
set_option maxRecDepth 100000 in
theorem mt_F_r63 : mt_Pf (((9, 28), (8, 8))) := ⟨("HealBench$Search", mt_F8, 18), rfl, by decide, Or.inl (mt_in 159 (by decide +kernel) rfl)⟩
set_option maxRecDepth 100000 in
theorem mt_F_r64 : mt_Pf (((9, 31), (8, 9))) := ⟨("HealBench$Search", mt_F8, 18), rfl, by decide, Or.inl (mt_in 160 (by decide +kernel) rfl)⟩
set_option maxRecDepth 100000 in
theorem mt_F_r65 : mt_Pf (((9, 34), (8, 10))) := ⟨("HealBench$Search", mt_F8, 18), rfl, by decide, Or.inl (mt_in 161 (by decide +kernel) rfl)⟩
set_option maxRecDepth 100000 in
theorem mt_F_r66 : mt_Pf (((9, 37), (8, 12))) := ⟨("HealBench$Search", mt_F8, 18), rfl, by decide, Or.inl (mt_in 165 (by decide +kernel) rfl)⟩
set_option maxRecDepth 100000 in
theorem mt_F_r67 : mt_Pf (((9, 41), (8, 0))) := ⟨("HealBench$Search", mt_F8, 18), rfl, by decide, Or.inl (mt_in 150 (by decide +kernel) rfl)⟩
set_option maxRecDepth 100000 in
theorem mt_F_r68 : mt_Pf (((9, 45), (8, 1))) := ⟨("HealBench$Search", mt_F8, 18), rfl, by decide, Or.inl (mt_in 151 (by decide +kernel) rfl)⟩
set_option maxRecDepth 100000 in
theorem mt_F_r69 : mt_Pf (((9, 54), (8, 2))) := ⟨("HealBench$Search", mt_F8, 18), rfl, by decide, Or.inl (mt_in 152 (by decide +kernel) rfl)⟩
set_option maxRecDepth 100000 in
theorem mt_F_r70 : mt_Pf (((9, 58), (8, 16))) := ⟨("HealBench$Search", mt_F8, 18), rfl, by decide, Or.inl (mt_in 173 (by decide +kernel) rfl)⟩
set_option maxRecDepth 100000 in
theorem mt_F_r71 : mt_Pf (((9, 62), (8, 17))) := ⟨("HealBench$Search", mt_F8, 18), rfl, by decide, Or.inl (mt_in 174 (by decide +kernel) rfl)⟩
def mt_F_2 : List ((Nat × Nat) × (Nat × Nat)) := [((8, 23), (7, 3)), ((8, 27), (7, 2)), ((8, 34), (7, 4)), ((8, 42), (10, 0)), ((8, 48), (10, 4)), ((8, 51), (2, 2)), ((8, 64), (10, 3)), ((8, 71), (2, 3)), ((8, 80), (10, 1)), ((8, 83), (2, 1)), ((9, 9), (8, 3)), ((9, 15), (8, 4)), ((9, 18), (8, 5)), ((9, 22), (8, 6)), ((9, 25), (8, 7)), ((9, 28), (8, 8)), ((9, 31), (8, 9)), ((9, 34), (8, 10)), ((9, 37), (8, 12)), ((9, 41), (8, 0)), ((9, 45), (8, 1)), ((9, 54), (8, 2)), ((9, 58), (8, 16)), ((9, 62), (8, 17))]
theorem mt_F_a2 : ∀ e ∈ mt_F_2, mt_Pf e := List.forall_mem_cons.mpr ⟨mt_F_r48, List.forall_mem_cons.mpr ⟨mt_F_r49, List.forall_mem_cons.mpr ⟨mt_F_r50, List.forall_mem_cons.mpr ⟨mt_F_r51, List.forall_mem_cons.mpr ⟨mt_F_r52, List.forall_mem_cons.mpr ⟨mt_F_r53, List.forall_mem_cons.mpr ⟨mt_F_r54, List.forall_mem_cons.mpr ⟨mt_F_r55, List.forall_mem_cons.mpr ⟨mt_F_r56, List.forall_mem_cons.mpr ⟨mt_F_r57, List.forall_mem_cons.mpr ⟨mt_F_r58, List.forall_mem_cons.mpr ⟨mt_F_r59, List.forall_mem_cons.mpr ⟨mt_F_r60, List.forall_mem_cons.mpr ⟨mt_F_r61, List.forall_mem_cons.mpr ⟨mt_F_r62, List.forall_mem_cons.mpr ⟨mt_F_r63, List.forall_mem_cons.mpr ⟨mt_F_r64, List.forall_mem_cons.mpr ⟨mt_F_r65, List.forall_mem_cons.mpr ⟨mt_F_r66, List.forall_mem_cons.mpr ⟨mt_F_r67, List.forall_mem_cons.mpr ⟨mt_F_r68, List.forall_mem_cons.mpr ⟨mt_F_r69, List.forall_mem_cons.mpr ⟨mt_F_r70, List.forall_mem_cons.mpr ⟨mt_F_r71, fun _ h => absurd h List.not_mem_nil⟩⟩⟩⟩⟩⟩⟩⟩⟩⟩⟩⟩⟩⟩⟩⟩⟩⟩⟩⟩⟩⟩⟩⟩
set_option maxRecDepth 100000 in
theorem mt_F_r72 : mt_Pf (((9, 77), (8, 11))) := ⟨("HealBench$Search", mt_F8, 18), rfl, by decide, Or.inl (mt_in 163 (by decide +kernel) rfl)⟩
set_option maxRecDepth 100000 in
theorem mt_F_r73 : mt_Pf (((9, 84), (8, 13))) := ⟨("HealBench$Search", mt_F8, 18), rfl, by decide, Or.inl (mt_in 167 (by decide +kernel) rfl)⟩
set_option maxRecDepth 100000 in
theorem mt_F_r74 : mt_Pf (((9, 87), (2, 5))) := ⟨("HealBench$Graph", mt_F2, 6), rfl, by decide, Or.inr ⟨"HealBench", mt_nin 64 (by decide +kernel) rfl⟩⟩
set_option maxRecDepth 100000 in
theorem mt_F_r75 : mt_Pf (((9, 102), (10, 4))) := ⟨("HealBench$View", mt_F10, 6), rfl, by decide, Or.inr ⟨"HealBench", mt_nin 97 (by decide +kernel) rfl⟩⟩
set_option maxRecDepth 100000 in
theorem mt_F_r76 : mt_Pf (((9, 104), (10, 3))) := ⟨("HealBench$View", mt_F10, 6), rfl, by decide, Or.inr ⟨"HealBench", mt_nin 94 (by decide +kernel) rfl⟩⟩
set_option maxRecDepth 100000 in
theorem mt_F_r77 : mt_Pf (((9, 105), (2, 2))) := ⟨("HealBench$Graph", mt_F2, 6), rfl, by decide, Or.inr ⟨"HealBench", mt_nin 52 (by decide +kernel) rfl⟩⟩
set_option maxRecDepth 100000 in
theorem mt_F_r78 : mt_Pf (((9, 114), (8, 15))) := ⟨("HealBench$Search", mt_F8, 18), rfl, by decide, Or.inl (mt_in 171 (by decide +kernel) rfl)⟩
set_option maxRecDepth 100000 in
theorem mt_F_r79 : mt_Pf (((9, 145), (8, 14))) := ⟨("HealBench$Search", mt_F8, 18), rfl, by decide, Or.inl (mt_in 169 (by decide +kernel) rfl)⟩
set_option maxRecDepth 100000 in
theorem mt_F_r80 : mt_Pf (((10, 7), (9, 0))) := ⟨("HealBench$Sum", mt_F9, 4), rfl, by decide, Or.inl (mt_in 472 (by decide +kernel) rfl)⟩
set_option maxRecDepth 100000 in
theorem mt_F_r81 : mt_Pf (((10, 13), (9, 1))) := ⟨("HealBench$Sum", mt_F9, 4), rfl, by decide, Or.inl (mt_in 473 (by decide +kernel) rfl)⟩
set_option maxRecDepth 100000 in
theorem mt_F_r82 : mt_Pf (((10, 17), (9, 2))) := ⟨("HealBench$Sum", mt_F9, 4), rfl, by decide, Or.inl (mt_in 474 (by decide +kernel) rfl)⟩
set_option maxRecDepth 100000 in
theorem mt_F_r83 : mt_Pf (((10, 20), (9, 3))) := ⟨("HealBench$Sum", mt_F9, 4), rfl, by decide, Or.inl (mt_in 475 (by decide +kernel) rfl)⟩
set_option maxRecDepth 100000 in
theorem mt_F_r84 : mt_Pf (((10, 24), (10, 2))) := ⟨("HealBench$View", mt_F10, 6), rfl, by decide, Or.inr ⟨"HealBench", mt_nin 92 (by decide +kernel) rfl⟩⟩
set_option maxRecDepth 100000 in
theorem mt_F_r85 : mt_Pf (((10, 30), (10, 0))) := ⟨("HealBench$View", mt_F10, 6), rfl, by decide, Or.inr ⟨"HealBench", mt_nin 87 (by decide +kernel) rfl⟩⟩
set_option maxRecDepth 100000 in
theorem mt_F_r86 : mt_Pf (((10, 34), (2, 3))) := ⟨("HealBench$Graph", mt_F2, 6), rfl, by decide, Or.inr ⟨"HealBench", mt_nin 57 (by decide +kernel) rfl⟩⟩
set_option maxRecDepth 100000 in
theorem mt_F_r87 : mt_Pf (((12, 9), (10, 1))) := ⟨("HealBench$View", mt_F10, 6), rfl, by decide, Or.inl (mt_in 89 (by decide +kernel) rfl)⟩
set_option maxRecDepth 100000 in
theorem mt_F_r88 : mt_Pf (((12, 15), (10, 2))) := ⟨("HealBench$View", mt_F10, 6), rfl, by decide, Or.inl (mt_in 91 (by decide +kernel) rfl)⟩
set_option maxRecDepth 100000 in
theorem mt_F_r89 : mt_Pf (((12, 18), (10, 3))) := ⟨("HealBench$View", mt_F10, 6), rfl, by decide, Or.inl (mt_in 93 (by decide +kernel) rfl)⟩
set_option maxRecDepth 100000 in
theorem mt_F_r90 : mt_Pf (((12, 21), (10, 0))) := ⟨("HealBench$View", mt_F10, 6), rfl, by decide, Or.inl (mt_in 85 (by decide +kernel) rfl)⟩
set_option maxRecDepth 100000 in
theorem mt_F_r91 : mt_Pf (((12, 25), (2, 2))) := ⟨("HealBench$Graph", mt_F2, 6), rfl, by decide, Or.inr ⟨"HealBench", mt_nin 50 (by decide +kernel) rfl⟩⟩
set_option maxRecDepth 100000 in
theorem mt_F_r92 : mt_Pf (((12, 35), (2, 3))) := ⟨("HealBench$Graph", mt_F2, 6), rfl, by decide, Or.inr ⟨"HealBench", mt_nin 56 (by decide +kernel) rfl⟩⟩
set_option maxRecDepth 100000 in
theorem mt_F_r93 : mt_Pf (((12, 38), (10, 5))) := ⟨("HealBench$View", mt_F10, 6), rfl, by decide, Or.inl (mt_in 101 (by decide +kernel) rfl)⟩
set_option maxRecDepth 100000 in
theorem mt_F_r94 : mt_Pf (((12, 41), (2, 0))) := ⟨("HealBench$Graph", mt_F2, 6), rfl, by decide, Or.inr ⟨"HealBench", mt_nin 45 (by decide +kernel) rfl⟩⟩
set_option maxRecDepth 100000 in
theorem mt_F_r95 : mt_Pf (((14, 7), (11, 0))) := ⟨("HealBenchModel", mt_F11, 40), rfl, by decide, Or.inl (mt_in 741 (by decide +kernel) rfl)⟩
def mt_F_3 : List ((Nat × Nat) × (Nat × Nat)) := [((9, 77), (8, 11)), ((9, 84), (8, 13)), ((9, 87), (2, 5)), ((9, 102), (10, 4)), ((9, 104), (10, 3)), ((9, 105), (2, 2)), ((9, 114), (8, 15)), ((9, 145), (8, 14)), ((10, 7), (9, 0)), ((10, 13), (9, 1)), ((10, 17), (9, 2)), ((10, 20), (9, 3)), ((10, 24), (10, 2)), ((10, 30), (10, 0)), ((10, 34), (2, 3)), ((12, 9), (10, 1)), ((12, 15), (10, 2)), ((12, 18), (10, 3)), ((12, 21), (10, 0)), ((12, 25), (2, 2)), ((12, 35), (2, 3)), ((12, 38), (10, 5)), ((12, 41), (2, 0)), ((14, 7), (11, 0))]
theorem mt_F_a3 : ∀ e ∈ mt_F_3, mt_Pf e := List.forall_mem_cons.mpr ⟨mt_F_r72, List.forall_mem_cons.mpr ⟨mt_F_r73, List.forall_mem_cons.mpr ⟨mt_F_r74, List.forall_mem_cons.mpr ⟨mt_F_r75, List.forall_mem_cons.mpr ⟨mt_F_r76, List.forall_mem_cons.mpr ⟨mt_F_r77, List.forall_mem_cons.mpr ⟨mt_F_r78, List.forall_mem_cons.mpr ⟨mt_F_r79, List.forall_mem_cons.mpr ⟨mt_F_r80, List.forall_mem_cons.mpr ⟨mt_F_r81, List.forall_mem_cons.mpr ⟨mt_F_r82, List.forall_mem_cons.mpr ⟨mt_F_r83, List.forall_mem_cons.mpr ⟨mt_F_r84, List.forall_mem_cons.mpr ⟨mt_F_r85, List.forall_mem_cons.mpr ⟨mt_F_r86, List.forall_mem_cons.mpr ⟨mt_F_r87, List.forall_mem_cons.mpr ⟨mt_F_r88, List.forall_mem_cons.mpr ⟨mt_F_r89, List.forall_mem_cons.mpr ⟨mt_F_r90, List.forall_mem_cons.mpr ⟨mt_F_r91, List.forall_mem_cons.mpr ⟨mt_F_r92, List.forall_mem_cons.mpr ⟨mt_F_r93, List.forall_mem_cons.mpr ⟨mt_F_r94, List.forall_mem_cons.mpr ⟨mt_F_r95, fun _ h => absurd h List.not_mem_nil⟩⟩⟩⟩⟩⟩⟩⟩⟩⟩⟩⟩⟩⟩⟩⟩⟩⟩⟩⟩⟩⟩⟩⟩
set_option maxRecDepth 100000 in
theorem mt_F_r96 : mt_Pf (((14, 13), (11, 1))) := ⟨("HealBenchModel", mt_F11, 40), rfl, by decide, Or.inl (mt_in 742 (by decide +kernel) rfl)⟩
set_option maxRecDepth 100000 in
theorem mt_F_r97 : mt_Pf (((14, 16), (11, 3))) := ⟨("HealBenchModel", mt_F11, 40), rfl, by decide, Or.inl (mt_in 744 (by decide +kernel) rfl)⟩
set_option maxRecDepth 100000 in
theorem mt_F_r98 : mt_Pf (((14, 20), (11, 4))) := ⟨("HealBenchModel", mt_F11, 40), rfl, by decide, Or.inl (mt_in 745 (by decide +kernel) rfl)⟩
set_option maxRecDepth 100000 in
theorem mt_F_r99 : mt_Pf (((14, 24), (11, 8))) := ⟨("HealBenchModel", mt_F11, 40), rfl, by decide, Or.inl (mt_in 749 (by decide +kernel) rfl)⟩
set_option maxRecDepth 100000 in
theorem mt_F_r100 : mt_Pf (((14, 27), (11, 10))) := ⟨("HealBenchModel", mt_F11, 40), rfl, by decide, Or.inl (mt_in 751 (by decide +kernel) rfl)⟩
set_option maxRecDepth 100000 in
theorem mt_F_r101 : mt_Pf (((14, 30), (11, 12))) := ⟨("HealBenchModel", mt_F11, 40), rfl, by decide, Or.inl (mt_in 753 (by decide +kernel) rfl)⟩
set_option maxRecDepth 100000 in
theorem mt_F_r102 : mt_Pf (((14, 33), (11, 13))) := ⟨("HealBenchModel", mt_F11, 40), rfl, by decide, Or.inl (mt_in 754 (by decide +kernel) rfl)⟩
set_option maxRecDepth 100000 in
theorem mt_F_r103 : mt_Pf (((14, 36), (11, 14))) := ⟨("HealBenchModel", mt_F11, 40), rfl, by decide, Or.inl (mt_in 755 (by decide +kernel) rfl)⟩
set_option maxRecDepth 100000 in
theorem mt_F_r104 : mt_Pf (((14, 39), (11, 15))) := ⟨("HealBenchModel", mt_F11, 40), rfl, by decide, Or.inl (mt_in 756 (by decide +kernel) rfl)⟩
set_option maxRecDepth 100000 in
theorem mt_F_r105 : mt_Pf (((14, 42), (11, 16))) := ⟨("HealBenchModel", mt_F11, 40), rfl, by decide, Or.inl (mt_in 757 (by decide +kernel) rfl)⟩
set_option maxRecDepth 100000 in
theorem mt_F_r106 : mt_Pf (((14, 45), (11, 18))) := ⟨("HealBenchModel", mt_F11, 40), rfl, by decide, Or.inl (mt_in 759 (by decide +kernel) rfl)⟩
set_option maxRecDepth 100000 in
theorem mt_F_r107 : mt_Pf (((14, 48), (11, 19))) := ⟨("HealBenchModel", mt_F11, 40), rfl, by decide, Or.inl (mt_in 760 (by decide +kernel) rfl)⟩
set_option maxRecDepth 100000 in
theorem mt_F_r108 : mt_Pf (((14, 51), (11, 20))) := ⟨("HealBenchModel", mt_F11, 40), rfl, by decide, Or.inl (mt_in 761 (by decide +kernel) rfl)⟩
set_option maxRecDepth 100000 in
theorem mt_F_r109 : mt_Pf (((14, 54), (11, 21))) := ⟨("HealBenchModel", mt_F11, 40), rfl, by decide, Or.inl (mt_in 762 (by decide +kernel) rfl)⟩
set_option maxRecDepth 100000 in
theorem mt_F_r110 : mt_Pf (((14, 57), (11, 28))) := ⟨("HealBenchModel", mt_F11, 40), rfl, by decide, Or.inl (mt_in 769 (by decide +kernel) rfl)⟩
set_option maxRecDepth 100000 in
theorem mt_F_r111 : mt_Pf (((14, 60), (11, 29))) := ⟨("HealBenchModel", mt_F11, 40), rfl, by decide, Or.inl (mt_in 770 (by decide +kernel) rfl)⟩
set_option maxRecDepth 100000 in
theorem mt_F_r112 : mt_Pf (((14, 63), (11, 33))) := ⟨("HealBenchModel", mt_F11, 40), rfl, by decide, Or.inl (mt_in 774 (by decide +kernel) rfl)⟩
set_option maxRecDepth 100000 in
theorem mt_F_r113 : mt_Pf (((14, 66), (11, 34))) := ⟨("HealBenchModel", mt_F11, 40), rfl, by decide, Or.inl (mt_in 775 (by decide +kernel) rfl)⟩
set_option maxRecDepth 100000 in
theorem mt_F_r114 : mt_Pf (((14, 69), (11, 35))) := ⟨("HealBenchModel", mt_F11, 40), rfl, by decide, Or.inl (mt_in 776 (by decide +kernel) rfl)⟩
set_option maxRecDepth 100000 in
theorem mt_F_r115 : mt_Pf (((14, 72), (11, 36))) := ⟨("HealBenchModel", mt_F11, 40), rfl, by decide, Or.inl (mt_in 777 (by decide +kernel) rfl)⟩
set_option maxRecDepth 100000 in
theorem mt_F_r116 : mt_Pf (((14, 75), (11, 37))) := ⟨("HealBenchModel", mt_F11, 40), rfl, by decide, Or.inl (mt_in 778 (by decide +kernel) rfl)⟩
set_option maxRecDepth 100000 in
theorem mt_F_r117 : mt_Pf (((14, 78), (11, 39))) := ⟨("HealBenchModel", mt_F11, 40), rfl, by decide, Or.inl (mt_in 780 (by decide +kernel) rfl)⟩
set_option maxRecDepth 100000 in
theorem mt_F_r118 : mt_Pf (((14, 85), (11, 2))) := ⟨("HealBenchModel", mt_F11, 40), rfl, by decide, Or.inl (mt_in 743 (by decide +kernel) rfl)⟩
set_option maxRecDepth 100000 in
theorem mt_F_r119 : mt_Pf (((14, 88), (11, 11))) := ⟨("HealBenchModel", mt_F11, 40), rfl, by decide, Or.inl (mt_in 752 (by decide +kernel) rfl)⟩
def mt_F_4 : List ((Nat × Nat) × (Nat × Nat)) := [((14, 13), (11, 1)), ((14, 16), (11, 3)), ((14, 20), (11, 4)), ((14, 24), (11, 8)), ((14, 27), (11, 10)), ((14, 30), (11, 12)), ((14, 33), (11, 13)), ((14, 36), (11, 14)), ((14, 39), (11, 15)), ((14, 42), (11, 16)), ((14, 45), (11, 18)), ((14, 48), (11, 19)), ((14, 51), (11, 20)), ((14, 54), (11, 21)), ((14, 57), (11, 28)), ((14, 60), (11, 29)), ((14, 63), (11, 33)), ((14, 66), (11, 34)), ((14, 69), (11, 35)), ((14, 72), (11, 36)), ((14, 75), (11, 37)), ((14, 78), (11, 39)), ((14, 85), (11, 2)), ((14, 88), (11, 11))]
theorem mt_F_a4 : ∀ e ∈ mt_F_4, mt_Pf e := List.forall_mem_cons.mpr ⟨mt_F_r96, List.forall_mem_cons.mpr ⟨mt_F_r97, List.forall_mem_cons.mpr ⟨mt_F_r98, List.forall_mem_cons.mpr ⟨mt_F_r99, List.forall_mem_cons.mpr ⟨mt_F_r100, List.forall_mem_cons.mpr ⟨mt_F_r101, List.forall_mem_cons.mpr ⟨mt_F_r102, List.forall_mem_cons.mpr ⟨mt_F_r103, List.forall_mem_cons.mpr ⟨mt_F_r104, List.forall_mem_cons.mpr ⟨mt_F_r105, List.forall_mem_cons.mpr ⟨mt_F_r106, List.forall_mem_cons.mpr ⟨mt_F_r107, List.forall_mem_cons.mpr ⟨mt_F_r108, List.forall_mem_cons.mpr ⟨mt_F_r109, List.forall_mem_cons.mpr ⟨mt_F_r110, List.forall_mem_cons.mpr ⟨mt_F_r111, List.forall_mem_cons.mpr ⟨mt_F_r112, List.forall_mem_cons.mpr ⟨mt_F_r113, List.forall_mem_cons.mpr ⟨mt_F_r114, List.forall_mem_cons.mpr ⟨mt_F_r115, List.forall_mem_cons.mpr ⟨mt_F_r116, List.forall_mem_cons.mpr ⟨mt_F_r117, List.forall_mem_cons.mpr ⟨mt_F_r118, List.forall_mem_cons.mpr ⟨mt_F_r119, fun _ h => absurd h List.not_mem_nil⟩⟩⟩⟩⟩⟩⟩⟩⟩⟩⟩⟩⟩⟩⟩⟩⟩⟩⟩⟩⟩⟩⟩⟩
set_option maxRecDepth 100000 in
theorem mt_F_r120 : mt_Pf (((14, 91), (11, 5))) := ⟨("HealBenchModel", mt_F11, 40), rfl, by decide, Or.inl (mt_in 746 (by decide +kernel) rfl)⟩
set_option maxRecDepth 100000 in
theorem mt_F_r121 : mt_Pf (((14, 94), (11, 6))) := ⟨("HealBenchModel", mt_F11, 40), rfl, by decide, Or.inl (mt_in 747 (by decide +kernel) rfl)⟩
set_option maxRecDepth 100000 in
theorem mt_F_r122 : mt_Pf (((14, 97), (11, 31))) := ⟨("HealBenchModel", mt_F11, 40), rfl, by decide, Or.inl (mt_in 772 (by decide +kernel) rfl)⟩
set_option maxRecDepth 100000 in
theorem mt_F_r123 : mt_Pf (((14, 109), (11, 9))) := ⟨("HealBenchModel", mt_F11, 40), rfl, by decide, Or.inl (mt_in 750 (by decide +kernel) rfl)⟩
set_option maxRecDepth 100000 in
theorem mt_F_r124 : mt_Pf (((14, 112), (11, 25))) := ⟨("HealBenchModel", mt_F11, 40), rfl, by decide, Or.inl (mt_in 766 (by decide +kernel) rfl)⟩
set_option maxRecDepth 100000 in
theorem mt_F_r125 : mt_Pf (((14, 115), (11, 24))) := ⟨("HealBenchModel", mt_F11, 40), rfl, by decide, Or.inl (mt_in 765 (by decide +kernel) rfl)⟩
set_option maxRecDepth 100000 in
theorem mt_F_r126 : mt_Pf (((14, 118), (11, 17))) := ⟨("HealBenchModel", mt_F11, 40), rfl, by decide, Or.inl (mt_in 758 (by decide +kernel) rfl)⟩
set_option maxRecDepth 100000 in
theorem mt_F_r127 : mt_Pf (((14, 121), (11, 22))) := ⟨("HealBenchModel", mt_F11, 40), rfl, by decide, Or.inl (mt_in 763 (by decide +kernel) rfl)⟩
set_option maxRecDepth 100000 in
theorem mt_F_r128 : mt_Pf (((14, 124), (11, 23))) := ⟨("HealBenchModel", mt_F11, 40), rfl, by decide, Or.inl (mt_in 764 (by decide +kernel) rfl)⟩
set_option maxRecDepth 100000 in
theorem mt_F_r129 : mt_Pf (((14, 131), (11, 26))) := ⟨("HealBenchModel", mt_F11, 40), rfl, by decide, Or.inl (mt_in 767 (by decide +kernel) rfl)⟩
set_option maxRecDepth 100000 in
theorem mt_F_r130 : mt_Pf (((14, 140), (11, 27))) := ⟨("HealBenchModel", mt_F11, 40), rfl, by decide, Or.inl (mt_in 768 (by decide +kernel) rfl)⟩
set_option maxRecDepth 100000 in
theorem mt_F_r131 : mt_Pf (((14, 169), (11, 7))) := ⟨("HealBenchModel", mt_F11, 40), rfl, by decide, Or.inl (mt_in 748 (by decide +kernel) rfl)⟩
set_option maxRecDepth 100000 in
theorem mt_F_r132 : mt_Pf (((14, 182), (11, 30))) := ⟨("HealBenchModel", mt_F11, 40), rfl, by decide, Or.inl (mt_in 771 (by decide +kernel) rfl)⟩
set_option maxRecDepth 100000 in
theorem mt_F_r133 : mt_Pf (((14, 226), (11, 38))) := ⟨("HealBenchModel", mt_F11, 40), rfl, by decide, Or.inl (mt_in 779 (by decide +kernel) rfl)⟩
set_option maxRecDepth 100000 in
theorem mt_F_r134 : mt_Pf (((14, 242), (11, 32))) := ⟨("HealBenchModel", mt_F11, 40), rfl, by decide, Or.inl (mt_in 773 (by decide +kernel) rfl)⟩
def mt_F_5 : List ((Nat × Nat) × (Nat × Nat)) := [((14, 91), (11, 5)), ((14, 94), (11, 6)), ((14, 97), (11, 31)), ((14, 109), (11, 9)), ((14, 112), (11, 25)), ((14, 115), (11, 24)), ((14, 118), (11, 17)), ((14, 121), (11, 22)), ((14, 124), (11, 23)), ((14, 131), (11, 26)), ((14, 140), (11, 27)), ((14, 169), (11, 7)), ((14, 182), (11, 30)), ((14, 226), (11, 38)), ((14, 242), (11, 32))]
theorem mt_F_a5 : ∀ e ∈ mt_F_5, mt_Pf e := List.forall_mem_cons.mpr ⟨mt_F_r120, List.forall_mem_cons.mpr ⟨mt_F_r121, List.forall_mem_cons.mpr ⟨mt_F_r122, List.forall_mem_cons.mpr ⟨mt_F_r123, List.forall_mem_cons.mpr ⟨mt_F_r124, List.forall_mem_cons.mpr ⟨mt_F_r125, List.forall_mem_cons.mpr ⟨mt_F_r126, List.forall_mem_cons.mpr ⟨mt_F_r127, List.forall_mem_cons.mpr ⟨mt_F_r128, List.forall_mem_cons.mpr ⟨mt_F_r129, List.forall_mem_cons.mpr ⟨mt_F_r130, List.forall_mem_cons.mpr ⟨mt_F_r131, List.forall_mem_cons.mpr ⟨mt_F_r132, List.forall_mem_cons.mpr ⟨mt_F_r133, List.forall_mem_cons.mpr ⟨mt_F_r134, fun _ h => absurd h List.not_mem_nil⟩⟩⟩⟩⟩⟩⟩⟩⟩⟩⟩⟩⟩⟩⟩
def mt_F : List ((Nat × Nat) × (Nat × Nat)) := mt_F_0 ++ (mt_F_1 ++ (mt_F_2 ++ (mt_F_3 ++ (mt_F_4 ++ (mt_F_5)))))
theorem mt_F_all : ∀ e ∈ mt_F, mt_Pf e := by
  show ∀ e ∈ mt_F_0 ++ (mt_F_1 ++ (mt_F_2 ++ (mt_F_3 ++ (mt_F_4 ++ (mt_F_5))))), mt_Pf e
  exact List.forall_mem_append.mpr ⟨mt_F_a0, List.forall_mem_append.mpr ⟨mt_F_a1, List.forall_mem_append.mpr ⟨mt_F_a2, List.forall_mem_append.mpr ⟨mt_F_a3, List.forall_mem_append.mpr ⟨mt_F_a4, mt_F_a5⟩⟩⟩⟩⟩
set_option maxRecDepth 100000 in
theorem mt_P_r0 : mt_Pp (((1, 10), (0, 0, true))) := ⟨("HealBench", mt_F0, 9), rfl, by decide, rfl, ⟨mt_in 213 (by decide +kernel) rfl, rfl⟩⟩
set_option maxRecDepth 100000 in
theorem mt_P_r1 : mt_Pp (((1, 21), (0, 1, true))) := ⟨("HealBench", mt_F0, 9), rfl, by decide, rfl, ⟨mt_in 214 (by decide +kernel) rfl, rfl⟩⟩
set_option maxRecDepth 100000 in
theorem mt_P_r2 : mt_Pp (((1, 28), (0, 2, true))) := ⟨("HealBench", mt_F0, 9), rfl, by decide, rfl, ⟨mt_in 215 (by decide +kernel) rfl, rfl⟩⟩
set_option maxRecDepth 100000 in
theorem mt_P_r3 : mt_Pp (((1, 37), (0, 3, true))) := ⟨("HealBench", mt_F0, 9), rfl, by decide, rfl, ⟨mt_in 216 (by decide +kernel) rfl, rfl⟩⟩
set_option maxRecDepth 100000 in
theorem mt_P_r4 : mt_Pp (((1, 41), (0, 4, true))) := ⟨("HealBench", mt_F0, 9), rfl, by decide, rfl, ⟨mt_in 217 (by decide +kernel) rfl, rfl⟩⟩
set_option maxRecDepth 100000 in
theorem mt_P_r5 : mt_Pp (((1, 55), (0, 6, false))) := ⟨("HealBench", mt_F0, 9), rfl, by decide, rfl, Or.inl (mt_in 219 (by decide +kernel) rfl)⟩
set_option maxRecDepth 100000 in
theorem mt_P_r6 : mt_Pp (((1, 79), (0, 5, false))) := ⟨("HealBench", mt_F0, 9), rfl, by decide, rfl, Or.inl (mt_in 218 (by decide +kernel) rfl)⟩
set_option maxRecDepth 100000 in
theorem mt_P_r7 : mt_Pp (((1, 123), (8, 12, false))) := ⟨("HealBench$Search", mt_F8, 18), rfl, by decide, rfl, Or.inr ⟨"HealBench", mt_nin 166 (by decide +kernel) rfl⟩⟩
set_option maxRecDepth 100000 in
theorem mt_P_r8 : mt_Pp (((1, 163), (0, 8, false))) := ⟨("HealBench", mt_F0, 9), rfl, by decide, rfl, Or.inl (mt_in 221 (by decide +kernel) rfl)⟩
set_option maxRecDepth 100000 in
theorem mt_P_r9 : mt_Pp (((1, 166), (0, 7, false))) := ⟨("HealBench", mt_F0, 9), rfl, by decide, rfl, Or.inl (mt_in 220 (by decide +kernel) rfl)⟩
set_option maxRecDepth 100000 in
theorem mt_P_r10 : mt_Pp (((2, 7), (1, 0, true))) := ⟨("HealBench$Comparison", mt_F1, 3), rfl, by decide, rfl, ⟨mt_in 492 (by decide +kernel) rfl, rfl⟩⟩
set_option maxRecDepth 100000 in
theorem mt_P_r11 : mt_Pp (((2, 13), (1, 1, true))) := ⟨("HealBench$Comparison", mt_F1, 3), rfl, by decide, rfl, ⟨mt_in 493 (by decide +kernel) rfl, rfl⟩⟩
set_option maxRecDepth 100000 in
theorem mt_P_r12 : mt_Pp (((2, 17), (1, 2, true))) := ⟨("HealBench$Comparison", mt_F1, 3), rfl, by decide, rfl, ⟨mt_in 494 (by decide +kernel) rfl, rfl⟩⟩
set_option maxRecDepth 100000 in
theorem mt_P_r13 : mt_Pp (((3, 9), (2, 0, true))) := ⟨("HealBench$Graph", mt_F2, 6), rfl, by decide, rfl, ⟨mt_in 44 (by decide +kernel) rfl, rfl⟩⟩
set_option maxRecDepth 100000 in
theorem mt_P_r14 : mt_Pp (((3, 15), (2, 1, true))) := ⟨("HealBench$Graph", mt_F2, 6), rfl, by decide, rfl, ⟨mt_in 46 (by decide +kernel) rfl, rfl⟩⟩
set_option maxRecDepth 100000 in
theorem mt_P_r15 : mt_Pp (((3, 22), (2, 2, false))) := ⟨("HealBench$Graph", mt_F2, 6), rfl, by decide, rfl, Or.inl (mt_in 49 (by decide +kernel) rfl)⟩
set_option maxRecDepth 100000 in
theorem mt_P_r16 : mt_Pp (((3, 26), (2, 3, false))) := ⟨("HealBench$Graph", mt_F2, 6), rfl, by decide, rfl, Or.inl (mt_in 55 (by decide +kernel) rfl)⟩
set_option maxRecDepth 100000 in
theorem mt_P_r17 : mt_Pp (((3, 29), (2, 4, false))) := ⟨("HealBench$Graph", mt_F2, 6), rfl, by decide, rfl, Or.inl (mt_in 60 (by decide +kernel) rfl)⟩
set_option maxRecDepth 100000 in
theorem mt_P_r18 : mt_Pp (((3, 32), (2, 5, false))) := ⟨("HealBench$Graph", mt_F2, 6), rfl, by decide, rfl, Or.inl (mt_in 62 (by decide +kernel) rfl)⟩
set_option maxRecDepth 100000 in
theorem mt_P_r19 : mt_Pp (((4, 7), (3, 0, true))) := ⟨("HealBench$Neighbours", mt_F3, 2), rfl, by decide, rfl, ⟨mt_in 359 (by decide +kernel) rfl, rfl⟩⟩
set_option maxRecDepth 100000 in
theorem mt_P_r20 : mt_Pp (((4, 13), (3, 1, true))) := ⟨("HealBench$Neighbours", mt_F3, 2), rfl, by decide, rfl, ⟨mt_in 360 (by decide +kernel) rfl, rfl⟩⟩
set_option maxRecDepth 100000 in
theorem mt_P_r21 : mt_Pp (((5, 7), (4, 0, true))) := ⟨("HealBench$Not", mt_F4, 1), rfl, by decide, rfl, ⟨mt_in 340 (by decide +kernel) rfl, rfl⟩⟩
set_option maxRecDepth 100000 in
theorem mt_P_r22 : mt_Pp (((6, 7), (5, 0, true))) := ⟨("HealBench$Pair", mt_F5, 3), rfl, by decide, rfl, ⟨mt_in 508 (by decide +kernel) rfl, rfl⟩⟩
set_option maxRecDepth 100000 in
theorem mt_P_r23 : mt_Pp (((6, 13), (5, 1, true))) := ⟨("HealBench$Pair", mt_F5, 3), rfl, by decide, rfl, ⟨mt_in 509 (by decide +kernel) rfl, rfl⟩⟩
def mt_P_0 : List ((Nat × Nat) × (Nat × Nat × Bool)) := [((1, 10), (0, 0, true)), ((1, 21), (0, 1, true)), ((1, 28), (0, 2, true)), ((1, 37), (0, 3, true)), ((1, 41), (0, 4, true)), ((1, 55), (0, 6, false)), ((1, 79), (0, 5, false)), ((1, 123), (8, 12, false)), ((1, 163), (0, 8, false)), ((1, 166), (0, 7, false)), ((2, 7), (1, 0, true)), ((2, 13), (1, 1, true)), ((2, 17), (1, 2, true)), ((3, 9), (2, 0, true)), ((3, 15), (2, 1, true)), ((3, 22), (2, 2, false)), ((3, 26), (2, 3, false)), ((3, 29), (2, 4, false)), ((3, 32), (2, 5, false)), ((4, 7), (3, 0, true)), ((4, 13), (3, 1, true)), ((5, 7), (4, 0, true)), ((6, 7), (5, 0, true)), ((6, 13), (5, 1, true))]
theorem mt_P_a0 : ∀ e ∈ mt_P_0, mt_Pp e := List.forall_mem_cons.mpr ⟨mt_P_r0, List.forall_mem_cons.mpr ⟨mt_P_r1, List.forall_mem_cons.mpr ⟨mt_P_r2, List.forall_mem_cons.mpr ⟨mt_P_r3, List.forall_mem_cons.mpr ⟨mt_P_r4, List.forall_mem_cons.mpr ⟨mt_P_r5, List.forall_mem_cons.mpr ⟨mt_P_r6, List.forall_mem_cons.mpr ⟨mt_P_r7, List.forall_mem_cons.mpr ⟨mt_P_r8, List.forall_mem_cons.mpr ⟨mt_P_r9, List.forall_mem_cons.mpr ⟨mt_P_r10, List.forall_mem_cons.mpr ⟨mt_P_r11, List.forall_mem_cons.mpr ⟨mt_P_r12, List.forall_mem_cons.mpr ⟨mt_P_r13, List.forall_mem_cons.mpr ⟨mt_P_r14, List.forall_mem_cons.mpr ⟨mt_P_r15, List.forall_mem_cons.mpr ⟨mt_P_r16, List.forall_mem_cons.mpr ⟨mt_P_r17, List.forall_mem_cons.mpr ⟨mt_P_r18, List.forall_mem_cons.mpr ⟨mt_P_r19, List.forall_mem_cons.mpr ⟨mt_P_r20, List.forall_mem_cons.mpr ⟨mt_P_r21, List.forall_mem_cons.mpr ⟨mt_P_r22, List.forall_mem_cons.mpr ⟨mt_P_r23, fun _ h => absurd h List.not_mem_nil⟩⟩⟩⟩⟩⟩⟩⟩⟩⟩⟩⟩⟩⟩⟩⟩⟩⟩⟩⟩⟩⟩⟩⟩
set_option maxRecDepth 100000 in
theorem mt_P_r24 : mt_Pp (((6, 16), (5, 2, true))) := ⟨("HealBench$Pair", mt_F5, 3), rfl, by decide, rfl, ⟨mt_in 510 (by decide +kernel) rfl, rfl⟩⟩
set_option maxRecDepth 100000 in
theorem mt_P_r25 : mt_Pp (((7, 9), (6, 2, false))) := ⟨("HealBench$Reader", mt_F6, 3), rfl, by decide, rfl, Or.inl (mt_in 302 (by decide +kernel) rfl)⟩
set_option maxRecDepth 100000 in
theorem mt_P_r26 : mt_Pp (((7, 15), (6, 0, true))) := ⟨("HealBench$Reader", mt_F6, 3), rfl, by decide, rfl, ⟨mt_in 300 (by decide +kernel) rfl, rfl⟩⟩
set_option maxRecDepth 100000 in
theorem mt_P_r27 : mt_Pp (((7, 19), (6, 1, false))) := ⟨("HealBench$Reader", mt_F6, 3), rfl, by decide, rfl, Or.inl (mt_in 301 (by decide +kernel) rfl)⟩
set_option maxRecDepth 100000 in
theorem mt_P_r28 : mt_Pp (((8, 11), (7, 0, true))) := ⟨("HealBench$Rules", mt_F7, 5), rfl, by decide, rfl, ⟨mt_in 125 (by decide +kernel) rfl, rfl⟩⟩
set_option maxRecDepth 100000 in
theorem mt_P_r29 : mt_Pp (((8, 19), (7, 1, true))) := ⟨("HealBench$Rules", mt_F7, 5), rfl, by decide, rfl, ⟨mt_in 126 (by decide +kernel) rfl, rfl⟩⟩
set_option maxRecDepth 100000 in
theorem mt_P_r30 : mt_Pp (((8, 23), (7, 3, false))) := ⟨("HealBench$Rules", mt_F7, 5), rfl, by decide, rfl, Or.inl (mt_in 129 (by decide +kernel) rfl)⟩
set_option maxRecDepth 100000 in
theorem mt_P_r31 : mt_Pp (((8, 27), (7, 2, false))) := ⟨("HealBench$Rules", mt_F7, 5), rfl, by decide, rfl, Or.inl (mt_in 127 (by decide +kernel) rfl)⟩
set_option maxRecDepth 100000 in
theorem mt_P_r32 : mt_Pp (((8, 34), (7, 4, false))) := ⟨("HealBench$Rules", mt_F7, 5), rfl, by decide, rfl, Or.inl (mt_in 130 (by decide +kernel) rfl)⟩
set_option maxRecDepth 100000 in
theorem mt_P_r33 : mt_Pp (((8, 48), (10, 4, false))) := ⟨("HealBench$View", mt_F10, 6), rfl, by decide, rfl, Or.inr ⟨"HealBench", mt_nin 98 (by decide +kernel) rfl⟩⟩
set_option maxRecDepth 100000 in
theorem mt_P_r34 : mt_Pp (((9, 9), (8, 3, true))) := ⟨("HealBench$Search", mt_F8, 18), rfl, by decide, rfl, ⟨mt_in 153 (by decide +kernel) rfl, rfl⟩⟩
set_option maxRecDepth 100000 in
theorem mt_P_r35 : mt_Pp (((9, 15), (8, 4, true))) := ⟨("HealBench$Search", mt_F8, 18), rfl, by decide, rfl, ⟨mt_in 154 (by decide +kernel) rfl, rfl⟩⟩
set_option maxRecDepth 100000 in
theorem mt_P_r36 : mt_Pp (((9, 18), (8, 5, true))) := ⟨("HealBench$Search", mt_F8, 18), rfl, by decide, rfl, ⟨mt_in 155 (by decide +kernel) rfl, rfl⟩⟩
set_option maxRecDepth 100000 in
theorem mt_P_r37 : mt_Pp (((9, 22), (8, 6, true))) := ⟨("HealBench$Search", mt_F8, 18), rfl, by decide, rfl, ⟨mt_in 156 (by decide +kernel) rfl, rfl⟩⟩
set_option maxRecDepth 100000 in
theorem mt_P_r38 : mt_Pp (((9, 25), (8, 7, true))) := ⟨("HealBench$Search", mt_F8, 18), rfl, by decide, rfl, ⟨mt_in 158 (by decide +kernel) rfl, rfl⟩⟩
set_option maxRecDepth 100000 in
theorem mt_P_r39 : mt_Pp (((9, 28), (8, 8, true))) := ⟨("HealBench$Search", mt_F8, 18), rfl, by decide, rfl, ⟨mt_in 159 (by decide +kernel) rfl, rfl⟩⟩
set_option maxRecDepth 100000 in
theorem mt_P_r40 : mt_Pp (((9, 31), (8, 9, true))) := ⟨("HealBench$Search", mt_F8, 18), rfl, by decide, rfl, ⟨mt_in 160 (by decide +kernel) rfl, rfl⟩⟩
set_option maxRecDepth 100000 in
theorem mt_P_r41 : mt_Pp (((9, 34), (8, 10, true))) := ⟨("HealBench$Search", mt_F8, 18), rfl, by decide, rfl, ⟨mt_in 161 (by decide +kernel) rfl, rfl⟩⟩
set_option maxRecDepth 100000 in
theorem mt_P_r42 : mt_Pp (((9, 37), (8, 12, false))) := ⟨("HealBench$Search", mt_F8, 18), rfl, by decide, rfl, Or.inl (mt_in 165 (by decide +kernel) rfl)⟩
set_option maxRecDepth 100000 in
theorem mt_P_r43 : mt_Pp (((9, 41), (8, 0, true))) := ⟨("HealBench$Search", mt_F8, 18), rfl, by decide, rfl, ⟨mt_in 150 (by decide +kernel) rfl, rfl⟩⟩
set_option maxRecDepth 100000 in
theorem mt_P_r44 : mt_Pp (((9, 45), (8, 1, true))) := ⟨("HealBench$Search", mt_F8, 18), rfl, by decide, rfl, ⟨mt_in 151 (by decide +kernel) rfl, rfl⟩⟩
set_option maxRecDepth 100000 in
theorem mt_P_r45 : mt_Pp (((9, 54), (8, 2, true))) := ⟨("HealBench$Search", mt_F8, 18), rfl, by decide, rfl, ⟨mt_in 152 (by decide +kernel) rfl, rfl⟩⟩
set_option maxRecDepth 100000 in
theorem mt_P_r46 : mt_Pp (((9, 58), (8, 16, false))) := ⟨("HealBench$Search", mt_F8, 18), rfl, by decide, rfl, Or.inl (mt_in 173 (by decide +kernel) rfl)⟩
set_option maxRecDepth 100000 in
theorem mt_P_r47 : mt_Pp (((9, 62), (8, 17, false))) := ⟨("HealBench$Search", mt_F8, 18), rfl, by decide, rfl, Or.inl (mt_in 174 (by decide +kernel) rfl)⟩
def mt_P_1 : List ((Nat × Nat) × (Nat × Nat × Bool)) := [((6, 16), (5, 2, true)), ((7, 9), (6, 2, false)), ((7, 15), (6, 0, true)), ((7, 19), (6, 1, false)), ((8, 11), (7, 0, true)), ((8, 19), (7, 1, true)), ((8, 23), (7, 3, false)), ((8, 27), (7, 2, false)), ((8, 34), (7, 4, false)), ((8, 48), (10, 4, false)), ((9, 9), (8, 3, true)), ((9, 15), (8, 4, true)), ((9, 18), (8, 5, true)), ((9, 22), (8, 6, true)), ((9, 25), (8, 7, true)), ((9, 28), (8, 8, true)), ((9, 31), (8, 9, true)), ((9, 34), (8, 10, true)), ((9, 37), (8, 12, false)), ((9, 41), (8, 0, true)), ((9, 45), (8, 1, true)), ((9, 54), (8, 2, true)), ((9, 58), (8, 16, false)), ((9, 62), (8, 17, false))]
theorem mt_P_a1 : ∀ e ∈ mt_P_1, mt_Pp e := List.forall_mem_cons.mpr ⟨mt_P_r24, List.forall_mem_cons.mpr ⟨mt_P_r25, List.forall_mem_cons.mpr ⟨mt_P_r26, List.forall_mem_cons.mpr ⟨mt_P_r27, List.forall_mem_cons.mpr ⟨mt_P_r28, List.forall_mem_cons.mpr ⟨mt_P_r29, List.forall_mem_cons.mpr ⟨mt_P_r30, List.forall_mem_cons.mpr ⟨mt_P_r31, List.forall_mem_cons.mpr ⟨mt_P_r32, List.forall_mem_cons.mpr ⟨mt_P_r33, List.forall_mem_cons.mpr ⟨mt_P_r34, List.forall_mem_cons.mpr ⟨mt_P_r35, List.forall_mem_cons.mpr ⟨mt_P_r36, List.forall_mem_cons.mpr ⟨mt_P_r37, List.forall_mem_cons.mpr ⟨mt_P_r38, List.forall_mem_cons.mpr ⟨mt_P_r39, List.forall_mem_cons.mpr ⟨mt_P_r40, List.forall_mem_cons.mpr ⟨mt_P_r41, List.forall_mem_cons.mpr ⟨mt_P_r42, List.forall_mem_cons.mpr ⟨mt_P_r43, List.forall_mem_cons.mpr ⟨mt_P_r44, List.forall_mem_cons.mpr ⟨mt_P_r45, List.forall_mem_cons.mpr ⟨mt_P_r46, List.forall_mem_cons.mpr ⟨mt_P_r47, fun _ h => absurd h List.not_mem_nil⟩⟩⟩⟩⟩⟩⟩⟩⟩⟩⟩⟩⟩⟩⟩⟩⟩⟩⟩⟩⟩⟩⟩⟩
set_option maxRecDepth 100000 in
theorem mt_P_r48 : mt_Pp (((9, 77), (8, 11, false))) := ⟨("HealBench$Search", mt_F8, 18), rfl, by decide, rfl, Or.inl (mt_in 163 (by decide +kernel) rfl)⟩
set_option maxRecDepth 100000 in
theorem mt_P_r49 : mt_Pp (((9, 84), (8, 13, false))) := ⟨("HealBench$Search", mt_F8, 18), rfl, by decide, rfl, Or.inl (mt_in 167 (by decide +kernel) rfl)⟩
set_option maxRecDepth 100000 in
theorem mt_P_r50 : mt_Pp (((9, 102), (10, 4, false))) := ⟨("HealBench$View", mt_F10, 6), rfl, by decide, rfl, Or.inr ⟨"HealBench", mt_nin 97 (by decide +kernel) rfl⟩⟩
set_option maxRecDepth 100000 in
theorem mt_P_r51 : mt_Pp (((9, 114), (8, 15, false))) := ⟨("HealBench$Search", mt_F8, 18), rfl, by decide, rfl, Or.inl (mt_in 171 (by decide +kernel) rfl)⟩
set_option maxRecDepth 100000 in
theorem mt_P_r52 : mt_Pp (((9, 145), (8, 14, false))) := ⟨("HealBench$Search", mt_F8, 18), rfl, by decide, rfl, Or.inl (mt_in 169 (by decide +kernel) rfl)⟩
set_option maxRecDepth 100000 in
theorem mt_P_r53 : mt_Pp (((10, 7), (9, 0, true))) := ⟨("HealBench$Sum", mt_F9, 4), rfl, by decide, rfl, ⟨mt_in 472 (by decide +kernel) rfl, rfl⟩⟩
set_option maxRecDepth 100000 in
theorem mt_P_r54 : mt_Pp (((10, 13), (9, 1, true))) := ⟨("HealBench$Sum", mt_F9, 4), rfl, by decide, rfl, ⟨mt_in 473 (by decide +kernel) rfl, rfl⟩⟩
set_option maxRecDepth 100000 in
theorem mt_P_r55 : mt_Pp (((10, 17), (9, 2, true))) := ⟨("HealBench$Sum", mt_F9, 4), rfl, by decide, rfl, ⟨mt_in 474 (by decide +kernel) rfl, rfl⟩⟩
set_option maxRecDepth 100000 in
theorem mt_P_r56 : mt_Pp (((10, 20), (9, 3, true))) := ⟨("HealBench$Sum", mt_F9, 4), rfl, by decide, rfl, ⟨mt_in 475 (by decide +kernel) rfl, rfl⟩⟩
set_option maxRecDepth 100000 in
theorem mt_P_r57 : mt_Pp (((12, 9), (10, 1, true))) := ⟨("HealBench$View", mt_F10, 6), rfl, by decide, rfl, ⟨mt_in 89 (by decide +kernel) rfl, rfl⟩⟩
set_option maxRecDepth 100000 in
theorem mt_P_r58 : mt_Pp (((12, 15), (10, 2, true))) := ⟨("HealBench$View", mt_F10, 6), rfl, by decide, rfl, ⟨mt_in 91 (by decide +kernel) rfl, rfl⟩⟩
set_option maxRecDepth 100000 in
theorem mt_P_r59 : mt_Pp (((12, 18), (10, 3, true))) := ⟨("HealBench$View", mt_F10, 6), rfl, by decide, rfl, ⟨mt_in 93 (by decide +kernel) rfl, rfl⟩⟩
set_option maxRecDepth 100000 in
theorem mt_P_r60 : mt_Pp (((12, 21), (10, 0, true))) := ⟨("HealBench$View", mt_F10, 6), rfl, by decide, rfl, ⟨mt_in 85 (by decide +kernel) rfl, rfl⟩⟩
set_option maxRecDepth 100000 in
theorem mt_P_r61 : mt_Pp (((12, 38), (10, 5, false))) := ⟨("HealBench$View", mt_F10, 6), rfl, by decide, rfl, Or.inl (mt_in 101 (by decide +kernel) rfl)⟩
set_option maxRecDepth 100000 in
theorem mt_P_r62 : mt_Pp (((14, 7), (11, 0, false))) := ⟨("HealBenchModel", mt_F11, 40), rfl, by decide, rfl, Or.inl (mt_in 741 (by decide +kernel) rfl)⟩
set_option maxRecDepth 100000 in
theorem mt_P_r63 : mt_Pp (((14, 13), (11, 1, false))) := ⟨("HealBenchModel", mt_F11, 40), rfl, by decide, rfl, Or.inl (mt_in 742 (by decide +kernel) rfl)⟩
set_option maxRecDepth 100000 in
theorem mt_P_r64 : mt_Pp (((14, 16), (11, 3, true))) := ⟨("HealBenchModel", mt_F11, 40), rfl, by decide, rfl, ⟨mt_in 744 (by decide +kernel) rfl, rfl⟩⟩
set_option maxRecDepth 100000 in
theorem mt_P_r65 : mt_Pp (((14, 20), (11, 4, true))) := ⟨("HealBenchModel", mt_F11, 40), rfl, by decide, rfl, ⟨mt_in 745 (by decide +kernel) rfl, rfl⟩⟩
set_option maxRecDepth 100000 in
theorem mt_P_r66 : mt_Pp (((14, 24), (11, 8, false))) := ⟨("HealBenchModel", mt_F11, 40), rfl, by decide, rfl, Or.inl (mt_in 749 (by decide +kernel) rfl)⟩
set_option maxRecDepth 100000 in
theorem mt_P_r67 : mt_Pp (((14, 27), (11, 10, true))) := ⟨("HealBenchModel", mt_F11, 40), rfl, by decide, rfl, ⟨mt_in 751 (by decide +kernel) rfl, rfl⟩⟩
set_option maxRecDepth 100000 in
theorem mt_P_r68 : mt_Pp (((14, 30), (11, 12, true))) := ⟨("HealBenchModel", mt_F11, 40), rfl, by decide, rfl, ⟨mt_in 753 (by decide +kernel) rfl, rfl⟩⟩
set_option maxRecDepth 100000 in
theorem mt_P_r69 : mt_Pp (((14, 33), (11, 13, true))) := ⟨("HealBenchModel", mt_F11, 40), rfl, by decide, rfl, ⟨mt_in 754 (by decide +kernel) rfl, rfl⟩⟩
set_option maxRecDepth 100000 in
theorem mt_P_r70 : mt_Pp (((14, 36), (11, 14, true))) := ⟨("HealBenchModel", mt_F11, 40), rfl, by decide, rfl, ⟨mt_in 755 (by decide +kernel) rfl, rfl⟩⟩
set_option maxRecDepth 100000 in
theorem mt_P_r71 : mt_Pp (((14, 39), (11, 15, true))) := ⟨("HealBenchModel", mt_F11, 40), rfl, by decide, rfl, ⟨mt_in 756 (by decide +kernel) rfl, rfl⟩⟩
def mt_P_2 : List ((Nat × Nat) × (Nat × Nat × Bool)) := [((9, 77), (8, 11, false)), ((9, 84), (8, 13, false)), ((9, 102), (10, 4, false)), ((9, 114), (8, 15, false)), ((9, 145), (8, 14, false)), ((10, 7), (9, 0, true)), ((10, 13), (9, 1, true)), ((10, 17), (9, 2, true)), ((10, 20), (9, 3, true)), ((12, 9), (10, 1, true)), ((12, 15), (10, 2, true)), ((12, 18), (10, 3, true)), ((12, 21), (10, 0, true)), ((12, 38), (10, 5, false)), ((14, 7), (11, 0, false)), ((14, 13), (11, 1, false)), ((14, 16), (11, 3, true)), ((14, 20), (11, 4, true)), ((14, 24), (11, 8, false)), ((14, 27), (11, 10, true)), ((14, 30), (11, 12, true)), ((14, 33), (11, 13, true)), ((14, 36), (11, 14, true)), ((14, 39), (11, 15, true))]
theorem mt_P_a2 : ∀ e ∈ mt_P_2, mt_Pp e := List.forall_mem_cons.mpr ⟨mt_P_r48, List.forall_mem_cons.mpr ⟨mt_P_r49, List.forall_mem_cons.mpr ⟨mt_P_r50, List.forall_mem_cons.mpr ⟨mt_P_r51, List.forall_mem_cons.mpr ⟨mt_P_r52, List.forall_mem_cons.mpr ⟨mt_P_r53, List.forall_mem_cons.mpr ⟨mt_P_r54, List.forall_mem_cons.mpr ⟨mt_P_r55, List.forall_mem_cons.mpr ⟨mt_P_r56, List.forall_mem_cons.mpr ⟨mt_P_r57, List.forall_mem_cons.mpr ⟨mt_P_r58, List.forall_mem_cons.mpr ⟨mt_P_r59, List.forall_mem_cons.mpr ⟨mt_P_r60, List.forall_mem_cons.mpr ⟨mt_P_r61, List.forall_mem_cons.mpr ⟨mt_P_r62, List.forall_mem_cons.mpr ⟨mt_P_r63, List.forall_mem_cons.mpr ⟨mt_P_r64, List.forall_mem_cons.mpr ⟨mt_P_r65, List.forall_mem_cons.mpr ⟨mt_P_r66, List.forall_mem_cons.mpr ⟨mt_P_r67, List.forall_mem_cons.mpr ⟨mt_P_r68, List.forall_mem_cons.mpr ⟨mt_P_r69, List.forall_mem_cons.mpr ⟨mt_P_r70, List.forall_mem_cons.mpr ⟨mt_P_r71, fun _ h => absurd h List.not_mem_nil⟩⟩⟩⟩⟩⟩⟩⟩⟩⟩⟩⟩⟩⟩⟩⟩⟩⟩⟩⟩⟩⟩⟩⟩
set_option maxRecDepth 100000 in
theorem mt_P_r72 : mt_Pp (((14, 42), (11, 16, true))) := ⟨("HealBenchModel", mt_F11, 40), rfl, by decide, rfl, ⟨mt_in 757 (by decide +kernel) rfl, rfl⟩⟩
set_option maxRecDepth 100000 in
theorem mt_P_r73 : mt_Pp (((14, 45), (11, 18, true))) := ⟨("HealBenchModel", mt_F11, 40), rfl, by decide, rfl, ⟨mt_in 759 (by decide +kernel) rfl, rfl⟩⟩
set_option maxRecDepth 100000 in
theorem mt_P_r74 : mt_Pp (((14, 48), (11, 19, true))) := ⟨("HealBenchModel", mt_F11, 40), rfl, by decide, rfl, ⟨mt_in 760 (by decide +kernel) rfl, rfl⟩⟩
set_option maxRecDepth 100000 in
theorem mt_P_r75 : mt_Pp (((14, 51), (11, 20, true))) := ⟨("HealBenchModel", mt_F11, 40), rfl, by decide, rfl, ⟨mt_in 761 (by decide +kernel) rfl, rfl⟩⟩
set_option maxRecDepth 100000 in
theorem mt_P_r76 : mt_Pp (((14, 54), (11, 21, true))) := ⟨("HealBenchModel", mt_F11, 40), rfl, by decide, rfl, ⟨mt_in 762 (by decide +kernel) rfl, rfl⟩⟩
set_option maxRecDepth 100000 in
theorem mt_P_r77 : mt_Pp (((14, 57), (11, 28, true))) := ⟨("HealBenchModel", mt_F11, 40), rfl, by decide, rfl, ⟨mt_in 769 (by decide +kernel) rfl, rfl⟩⟩
set_option maxRecDepth 100000 in
theorem mt_P_r78 : mt_Pp (((14, 60), (11, 29, true))) := ⟨("HealBenchModel", mt_F11, 40), rfl, by decide, rfl, ⟨mt_in 770 (by decide +kernel) rfl, rfl⟩⟩
set_option maxRecDepth 100000 in
theorem mt_P_r79 : mt_Pp (((14, 63), (11, 33, true))) := ⟨("HealBenchModel", mt_F11, 40), rfl, by decide, rfl, ⟨mt_in 774 (by decide +kernel) rfl, rfl⟩⟩
set_option maxRecDepth 100000 in
theorem mt_P_r80 : mt_Pp (((14, 66), (11, 34, true))) := ⟨("HealBenchModel", mt_F11, 40), rfl, by decide, rfl, ⟨mt_in 775 (by decide +kernel) rfl, rfl⟩⟩
set_option maxRecDepth 100000 in
theorem mt_P_r81 : mt_Pp (((14, 69), (11, 35, true))) := ⟨("HealBenchModel", mt_F11, 40), rfl, by decide, rfl, ⟨mt_in 776 (by decide +kernel) rfl, rfl⟩⟩
set_option maxRecDepth 100000 in
theorem mt_P_r82 : mt_Pp (((14, 72), (11, 36, true))) := ⟨("HealBenchModel", mt_F11, 40), rfl, by decide, rfl, ⟨mt_in 777 (by decide +kernel) rfl, rfl⟩⟩
set_option maxRecDepth 100000 in
theorem mt_P_r83 : mt_Pp (((14, 75), (11, 37, true))) := ⟨("HealBenchModel", mt_F11, 40), rfl, by decide, rfl, ⟨mt_in 778 (by decide +kernel) rfl, rfl⟩⟩
set_option maxRecDepth 100000 in
theorem mt_P_r84 : mt_Pp (((14, 78), (11, 39, true))) := ⟨("HealBenchModel", mt_F11, 40), rfl, by decide, rfl, ⟨mt_in 780 (by decide +kernel) rfl, rfl⟩⟩
set_option maxRecDepth 100000 in
theorem mt_P_r85 : mt_Pp (((14, 85), (11, 2, false))) := ⟨("HealBenchModel", mt_F11, 40), rfl, by decide, rfl, Or.inl (mt_in 743 (by decide +kernel) rfl)⟩
set_option maxRecDepth 100000 in
theorem mt_P_r86 : mt_Pp (((14, 88), (11, 11, false))) := ⟨("HealBenchModel", mt_F11, 40), rfl, by decide, rfl, Or.inl (mt_in 752 (by decide +kernel) rfl)⟩
set_option maxRecDepth 100000 in
theorem mt_P_r87 : mt_Pp (((14, 91), (11, 5, false))) := ⟨("HealBenchModel", mt_F11, 40), rfl, by decide, rfl, Or.inl (mt_in 746 (by decide +kernel) rfl)⟩
set_option maxRecDepth 100000 in
theorem mt_P_r88 : mt_Pp (((14, 94), (11, 6, false))) := ⟨("HealBenchModel", mt_F11, 40), rfl, by decide, rfl, Or.inl (mt_in 747 (by decide +kernel) rfl)⟩
set_option maxRecDepth 100000 in
theorem mt_P_r89 : mt_Pp (((14, 97), (11, 31, false))) := ⟨("HealBenchModel", mt_F11, 40), rfl, by decide, rfl, Or.inl (mt_in 772 (by decide +kernel) rfl)⟩
set_option maxRecDepth 100000 in
theorem mt_P_r90 : mt_Pp (((14, 109), (11, 9, false))) := ⟨("HealBenchModel", mt_F11, 40), rfl, by decide, rfl, Or.inl (mt_in 750 (by decide +kernel) rfl)⟩
set_option maxRecDepth 100000 in
theorem mt_P_r91 : mt_Pp (((14, 112), (11, 25, false))) := ⟨("HealBenchModel", mt_F11, 40), rfl, by decide, rfl, Or.inl (mt_in 766 (by decide +kernel) rfl)⟩
set_option maxRecDepth 100000 in
theorem mt_P_r92 : mt_Pp (((14, 115), (11, 24, false))) := ⟨("HealBenchModel", mt_F11, 40), rfl, by decide, rfl, Or.inl (mt_in 765 (by decide +kernel) rfl)⟩
set_option maxRecDepth 100000 in
theorem mt_P_r93 : mt_Pp (((14, 118), (11, 17, false))) := ⟨("HealBenchModel", mt_F11, 40), rfl, by decide, rfl, Or.inl (mt_in 758 (by decide +kernel) rfl)⟩
set_option maxRecDepth 100000 in
theorem mt_P_r94 : mt_Pp (((14, 121), (11, 22, false))) := ⟨("HealBenchModel", mt_F11, 40), rfl, by decide, rfl, Or.inl (mt_in 763 (by decide +kernel) rfl)⟩
set_option maxRecDepth 100000 in
theorem mt_P_r95 : mt_Pp (((14, 124), (11, 23, false))) := ⟨("HealBenchModel", mt_F11, 40), rfl, by decide, rfl, Or.inl (mt_in 764 (by decide +kernel) rfl)⟩
def mt_P_3 : List ((Nat × Nat) × (Nat × Nat × Bool)) := [((14, 42), (11, 16, true)), ((14, 45), (11, 18, true)), ((14, 48), (11, 19, true)), ((14, 51), (11, 20, true)), ((14, 54), (11, 21, true)), ((14, 57), (11, 28, true)), ((14, 60), (11, 29, true)), ((14, 63), (11, 33, true)), ((14, 66), (11, 34, true)), ((14, 69), (11, 35, true)), ((14, 72), (11, 36, true)), ((14, 75), (11, 37, true)), ((14, 78), (11, 39, true)), ((14, 85), (11, 2, false)), ((14, 88), (11, 11, false)), ((14, 91), (11, 5, false)), ((14, 94), (11, 6, false)), ((14, 97), (11, 31, false)), ((14, 109), (11, 9, false)), ((14, 112), (11, 25, false)), ((14, 115), (11, 24, false)), ((14, 118), (11, 17, false)), ((14, 121), (11, 22, false)), ((14, 124), (11, 23, false))]
theorem mt_P_a3 : ∀ e ∈ mt_P_3, mt_Pp e := List.forall_mem_cons.mpr ⟨mt_P_r72, List.forall_mem_cons.mpr ⟨mt_P_r73, List.forall_mem_cons.mpr ⟨mt_P_r74, List.forall_mem_cons.mpr ⟨mt_P_r75, List.forall_mem_cons.mpr ⟨mt_P_r76, List.forall_mem_cons.mpr ⟨mt_P_r77, List.forall_mem_cons.mpr ⟨mt_P_r78, List.forall_mem_cons.mpr ⟨mt_P_r79, List.forall_mem_cons.mpr ⟨mt_P_r80, List.forall_mem_cons.mpr ⟨mt_P_r81, List.forall_mem_cons.mpr ⟨mt_P_r82, List.forall_mem_cons.mpr ⟨mt_P_r83, List.forall_mem_cons.mpr ⟨mt_P_r84, List.forall_mem_cons.mpr ⟨mt_P_r85, List.forall_mem_cons.mpr ⟨mt_P_r86, List.forall_mem_cons.mpr ⟨mt_P_r87, List.forall_mem_cons.mpr ⟨mt_P_r88, List.forall_mem_cons.mpr ⟨mt_P_r89, List.forall_mem_cons.mpr ⟨mt_P_r90, List.forall_mem_cons.mpr ⟨mt_P_r91, List.forall_mem_cons.mpr ⟨mt_P_r92, List.forall_mem_cons.mpr ⟨mt_P_r93, List.forall_mem_cons.mpr ⟨mt_P_r94, List.forall_mem_cons.mpr ⟨mt_P_r95, fun _ h => absurd h List.not_mem_nil⟩⟩⟩⟩⟩⟩⟩⟩⟩⟩⟩⟩⟩⟩⟩⟩⟩⟩⟩⟩⟩⟩⟩⟩
set_option maxRecDepth 100000 in
theorem mt_P_r96 : mt_Pp (((14, 131), (11, 26, false))) := ⟨("HealBenchModel", mt_F11, 40), rfl, by decide, rfl, Or.inl (mt_in 767 (by decide +kernel) rfl)⟩
set_option maxRecDepth 100000 in
theorem mt_P_r97 : mt_Pp (((14, 140), (11, 27, false))) := ⟨("HealBenchModel", mt_F11, 40), rfl, by decide, rfl, Or.inl (mt_in 768 (by decide +kernel) rfl)⟩
set_option maxRecDepth 100000 in
theorem mt_P_r98 : mt_Pp (((14, 169), (11, 7, false))) := ⟨("HealBenchModel", mt_F11, 40), rfl, by decide, rfl, Or.inl (mt_in 748 (by decide +kernel) rfl)⟩
set_option maxRecDepth 100000 in
theorem mt_P_r99 : mt_Pp (((14, 182), (11, 30, false))) := ⟨("HealBenchModel", mt_F11, 40), rfl, by decide, rfl, Or.inl (mt_in 771 (by decide +kernel) rfl)⟩
set_option maxRecDepth 100000 in
theorem mt_P_r100 : mt_Pp (((14, 226), (11, 38, false))) := ⟨("HealBenchModel", mt_F11, 40), rfl, by decide, rfl, Or.inl (mt_in 779 (by decide +kernel) rfl)⟩
set_option maxRecDepth 100000 in
theorem mt_P_r101 : mt_Pp (((14, 242), (11, 32, false))) := ⟨("HealBenchModel", mt_F11, 40), rfl, by decide, rfl, Or.inl (mt_in 773 (by decide +kernel) rfl)⟩
def mt_P_4 : List ((Nat × Nat) × (Nat × Nat × Bool)) := [((14, 131), (11, 26, false)), ((14, 140), (11, 27, false)), ((14, 169), (11, 7, false)), ((14, 182), (11, 30, false)), ((14, 226), (11, 38, false)), ((14, 242), (11, 32, false))]
theorem mt_P_a4 : ∀ e ∈ mt_P_4, mt_Pp e := List.forall_mem_cons.mpr ⟨mt_P_r96, List.forall_mem_cons.mpr ⟨mt_P_r97, List.forall_mem_cons.mpr ⟨mt_P_r98, List.forall_mem_cons.mpr ⟨mt_P_r99, List.forall_mem_cons.mpr ⟨mt_P_r100, List.forall_mem_cons.mpr ⟨mt_P_r101, fun _ h => absurd h List.not_mem_nil⟩⟩⟩⟩⟩⟩
def mt_P : List ((Nat × Nat) × (Nat × Nat × Bool)) := mt_P_0 ++ (mt_P_1 ++ (mt_P_2 ++ (mt_P_3 ++ (mt_P_4))))
theorem mt_P_all : ∀ e ∈ mt_P, mt_Pp e := by
  show ∀ e ∈ mt_P_0 ++ (mt_P_1 ++ (mt_P_2 ++ (mt_P_3 ++ (mt_P_4)))), mt_Pp e
  exact List.forall_mem_append.mpr ⟨mt_P_a0, List.forall_mem_append.mpr ⟨mt_P_a1, List.forall_mem_append.mpr ⟨mt_P_a2, List.forall_mem_append.mpr ⟨mt_P_a3, mt_P_a4⟩⟩⟩⟩
set_option maxRecDepth 100000 in
theorem mt_LF_r0 : mt_Pl (((17, 9), 0)) := ⟨fun _ => mt_in 1081 (by decide +kernel) rfl, fun h => absurd h (by decide)⟩
set_option maxRecDepth 100000 in
theorem mt_LF_r1 : mt_Pl (((17, 15), 1)) := ⟨fun h => absurd h (by decide), fun _ => mt_in 1080 (by decide +kernel) rfl⟩
def mt_LF_0 : List ((Nat × Nat) × Nat) := [((17, 9), 0), ((17, 15), 1)]
theorem mt_LF_a0 : ∀ e ∈ mt_LF_0, mt_Pl e := List.forall_mem_cons.mpr ⟨mt_LF_r0, List.forall_mem_cons.mpr ⟨mt_LF_r1, fun _ h => absurd h List.not_mem_nil⟩⟩
def mt_LF : List ((Nat × Nat) × Nat) := mt_LF_0
theorem mt_LF_all : ∀ e ∈ mt_LF, mt_Pl e := by
  show ∀ e ∈ mt_LF_0, mt_Pl e
  exact mt_LF_a0
set_option maxRecDepth 100000 in
theorem mt_S_r0 : mt_Ps (((17, 38), 1)) := ⟨"java/lang/String", "COMPACT_STRINGS", "Z", List.mem_cons_self, mt_in 391 (by decide +kernel) rfl⟩
def mt_S_0 : List ((Nat × Nat) × Int32) := [((17, 38), 1)]
theorem mt_S_a0 : ∀ e ∈ mt_S_0, mt_Ps e := List.forall_mem_cons.mpr ⟨mt_S_r0, fun _ h => absurd h List.not_mem_nil⟩
def mt_S : List ((Nat × Nat) × Int32) := mt_S_0
theorem mt_S_all : ∀ e ∈ mt_S, mt_Ps e := by
  show ∀ e ∈ mt_S_0, mt_Ps e
  exact mt_S_a0
set_option maxRecDepth 100000 in
theorem mt_K_r0 : mt_Pk (((7, 84), .retAddr 1)) := Or.inr ⟨0, "0123456789xidmMlunk", rfl, by decide +kernel⟩
set_option maxRecDepth 100000 in
theorem mt_K_r1 : mt_Pk (((7, 92), .retAddr 3)) := Or.inr ⟨1, "yj", rfl, by decide +kernel⟩
set_option maxRecDepth 100000 in
theorem mt_K_r2 : mt_Pk (((9, 156), .int 33792)) := Or.inl ⟨33792, rfl, mt_in 704 (by decide +kernel) rfl⟩
set_option maxRecDepth 100000 in
theorem mt_K_r3 : mt_Pk (((9, 161), .int 1000000)) := Or.inl ⟨1000000, rfl, mt_in 709 (by decide +kernel) rfl⟩
set_option maxRecDepth 100000 in
theorem mt_K_r4 : mt_Pk (((15, 265), .int 1431655765)) := Or.inl ⟨1431655765, rfl, mt_in 577 (by decide +kernel) rfl⟩
set_option maxRecDepth 100000 in
theorem mt_K_r5 : mt_Pk (((15, 266), .int 858993459)) := Or.inl ⟨858993459, rfl, mt_in 578 (by decide +kernel) rfl⟩
set_option maxRecDepth 100000 in
theorem mt_K_r6 : mt_Pk (((15, 267), .int 252645135)) := Or.inl ⟨252645135, rfl, mt_in 579 (by decide +kernel) rfl⟩
def mt_K_0 : List ((Nat × Nat) × Value) := [((7, 84), .retAddr 1), ((7, 92), .retAddr 3), ((9, 156), .int 33792), ((9, 161), .int 1000000), ((15, 265), .int 1431655765), ((15, 266), .int 858993459), ((15, 267), .int 252645135)]
theorem mt_K_a0 : ∀ e ∈ mt_K_0, mt_Pk e := List.forall_mem_cons.mpr ⟨mt_K_r0, List.forall_mem_cons.mpr ⟨mt_K_r1, List.forall_mem_cons.mpr ⟨mt_K_r2, List.forall_mem_cons.mpr ⟨mt_K_r3, List.forall_mem_cons.mpr ⟨mt_K_r4, List.forall_mem_cons.mpr ⟨mt_K_r5, List.forall_mem_cons.mpr ⟨mt_K_r6, fun _ h => absurd h List.not_mem_nil⟩⟩⟩⟩⟩⟩⟩
def mt_K : List ((Nat × Nat) × Value) := mt_K_0
theorem mt_K_all : ∀ e ∈ mt_K, mt_Pk e := by
  show ∀ e ∈ mt_K_0, mt_Pk e
  exact mt_K_a0
set_option maxRecDepth 100000 in
theorem mt_N_r0 : mt_Pn (((1, 7), 2)) := ⟨("HealBench$Graph", mt_F2, 6), rfl, mt_in 31 (by decide +kernel) rfl, mt_in 32 (by decide +kernel) rfl, mt_in 2 (by decide +kernel) rfl⟩
set_option maxRecDepth 100000 in
theorem mt_N_r1 : mt_Pn (((1, 16), 10)) := ⟨("HealBench$View", mt_F10, 6), rfl, mt_in 79 (by decide +kernel) rfl, mt_in 80 (by decide +kernel) rfl, mt_in 4 (by decide +kernel) rfl⟩
set_option maxRecDepth 100000 in
theorem mt_N_r2 : mt_Pn (((1, 25), 7)) := ⟨("HealBench$Rules", mt_F7, 5), rfl, mt_in 115 (by decide +kernel) rfl, mt_in 116 (by decide +kernel) rfl, mt_in 5 (by decide +kernel) rfl⟩
set_option maxRecDepth 100000 in
theorem mt_N_r3 : mt_Pn (((1, 32), 8)) := ⟨("HealBench$Search", mt_F8, 18), rfl, mt_in 142 (by decide +kernel) rfl, mt_in 143 (by decide +kernel) rfl, mt_in 6 (by decide +kernel) rfl⟩
set_option maxRecDepth 100000 in
theorem mt_N_r4 : mt_Pn (((1, 90), 6)) := ⟨("HealBench$Reader", mt_F6, 3), rfl, mt_in 294 (by decide +kernel) rfl, mt_in 295 (by decide +kernel) rfl, mt_in 9 (by decide +kernel) rfl⟩
set_option maxRecDepth 100000 in
theorem mt_N_r5 : mt_Pn (((7, 37), 5)) := ⟨("HealBench$Pair", mt_F5, 3), rfl, mt_in 502 (by decide +kernel) rfl, mt_in 503 (by decide +kernel) rfl, mt_in 21 (by decide +kernel) rfl⟩
set_option maxRecDepth 100000 in
theorem mt_N_r6 : mt_Pn (((7, 45), 4)) := ⟨("HealBench$Not", mt_F4, 1), rfl, mt_in 331 (by decide +kernel) rfl, mt_in 332 (by decide +kernel) rfl, mt_in 11 (by decide +kernel) rfl⟩
set_option maxRecDepth 100000 in
theorem mt_N_r7 : mt_Pn (((7, 57), 3)) := ⟨("HealBench$Neighbours", mt_F3, 2), rfl, mt_in 353 (by decide +kernel) rfl, mt_in 354 (by decide +kernel) rfl, mt_in 12 (by decide +kernel) rfl⟩
set_option maxRecDepth 100000 in
theorem mt_N_r8 : mt_Pn (((7, 70), 1)) := ⟨("HealBench$Comparison", mt_F1, 3), rfl, mt_in 486 (by decide +kernel) rfl, mt_in 487 (by decide +kernel) rfl, mt_in 20 (by decide +kernel) rfl⟩
set_option maxRecDepth 100000 in
theorem mt_N_r9 : mt_Pn (((7, 79), 9)) := ⟨("HealBench$Sum", mt_F9, 4), rfl, mt_in 466 (by decide +kernel) rfl, mt_in 467 (by decide +kernel) rfl, mt_in 19 (by decide +kernel) rfl⟩
set_option maxRecDepth 100000 in
theorem mt_N_r10 : mt_Pn (((9, 49), 10)) := ⟨("HealBench$View", mt_F10, 6), rfl, mt_in 148 (by decide +kernel) rfl, mt_in 80 (by decide +kernel) rfl, mt_in 4 (by decide +kernel) rfl⟩
set_option maxRecDepth 100000 in
theorem mt_N_r11 : mt_Pn (((13, 7), 0)) := ⟨("HealBench", mt_F0, 9), rfl, mt_in 23 (by decide +kernel) rfl, mt_in 24 (by decide +kernel) rfl, mt_in 1 (by decide +kernel) rfl⟩
set_option maxRecDepth 100000 in
theorem mt_N_r12 : mt_Pn (((13, 10), 11)) := ⟨("HealBenchModel", mt_F11, 40), rfl, mt_in 735 (by decide +kernel) rfl, mt_in 736 (by decide +kernel) rfl, mt_in 7 (by decide +kernel) rfl⟩
def mt_N_0 : List ((Nat × Nat) × Nat) := [((1, 7), 2), ((1, 16), 10), ((1, 25), 7), ((1, 32), 8), ((1, 90), 6), ((7, 37), 5), ((7, 45), 4), ((7, 57), 3), ((7, 70), 1), ((7, 79), 9), ((9, 49), 10), ((13, 7), 0), ((13, 10), 11)]
theorem mt_N_a0 : ∀ e ∈ mt_N_0, mt_Pn e := List.forall_mem_cons.mpr ⟨mt_N_r0, List.forall_mem_cons.mpr ⟨mt_N_r1, List.forall_mem_cons.mpr ⟨mt_N_r2, List.forall_mem_cons.mpr ⟨mt_N_r3, List.forall_mem_cons.mpr ⟨mt_N_r4, List.forall_mem_cons.mpr ⟨mt_N_r5, List.forall_mem_cons.mpr ⟨mt_N_r6, List.forall_mem_cons.mpr ⟨mt_N_r7, List.forall_mem_cons.mpr ⟨mt_N_r8, List.forall_mem_cons.mpr ⟨mt_N_r9, List.forall_mem_cons.mpr ⟨mt_N_r10, List.forall_mem_cons.mpr ⟨mt_N_r11, List.forall_mem_cons.mpr ⟨mt_N_r12, fun _ h => absurd h List.not_mem_nil⟩⟩⟩⟩⟩⟩⟩⟩⟩⟩⟩⟩⟩
def mt_N : List ((Nat × Nat) × Nat) := mt_N_0
theorem mt_N_all : ∀ e ∈ mt_N, mt_Pn e := by
  show ∀ e ∈ mt_N_0, mt_Pn e
  exact mt_N_a0
set_option maxRecDepth 100000 in
theorem mt_NA_r0 : mt_Pa (((8, 9), 200)) := ⟨3, "HealBench$Test", rfl, by decide, mt_in 121 (by decide +kernel) rfl, by decide +kernel⟩
set_option maxRecDepth 100000 in
theorem mt_NA_r1 : mt_Pa (((8, 17), 201)) := ⟨4, "HealBench$Sum", rfl, by decide, mt_in 123 (by decide +kernel) rfl, by decide +kernel⟩
def mt_NA_0 : List ((Nat × Nat) × Nat) := [((8, 9), 200), ((8, 17), 201)]
theorem mt_NA_a0 : ∀ e ∈ mt_NA_0, mt_Pa e := List.forall_mem_cons.mpr ⟨mt_NA_r0, List.forall_mem_cons.mpr ⟨mt_NA_r1, fun _ h => absurd h List.not_mem_nil⟩⟩
def mt_NA : List ((Nat × Nat) × Nat) := mt_NA_0
theorem mt_NA_all : ∀ e ∈ mt_NA, mt_Pa e := by
  show ∀ e ∈ mt_NA_0, mt_Pa e
  exact mt_NA_a0
set_option maxRecDepth 100000 in
theorem mt_MS_r0 : mt_Pms (((1, 194), 9999)) := ⟨fun _ => mt_in 291 (by decide +kernel) rfl, fun h => absurd rfl h⟩
set_option maxRecDepth 100000 in
theorem mt_MS_r1 : mt_Pms (((3, 35), 137)) := ⟨fun h => absurd h (by decide), fun _ => ⟨⟨by decide, by decide +kernel⟩, Or.inl (mt_in 41 (by decide +kernel) rfl), mt_in 42 (by decide +kernel) rfl, by decide +kernel⟩⟩
set_option maxRecDepth 100000 in
theorem mt_MS_r2 : mt_Pms (((8, 74), 139)) := ⟨fun h => absurd h (by decide), fun _ => ⟨⟨by decide, by decide +kernel⟩, Or.inl (mt_in 632 (by decide +kernel) rfl), mt_in 598 (by decide +kernel) rfl, by decide +kernel⟩⟩
set_option maxRecDepth 100000 in
theorem mt_MS_r3 : mt_Pms (((8, 86), 138)) := ⟨fun h => absurd h (by decide), fun _ => ⟨⟨by decide, by decide +kernel⟩, Or.inl (mt_in 646 (by decide +kernel) rfl), mt_in 575 (by decide +kernel) rfl, by decide +kernel⟩⟩
set_option maxRecDepth 100000 in
theorem mt_MS_r4 : mt_Pms (((9, 65), 138)) := ⟨fun h => absurd h (by decide), fun _ => ⟨⟨by decide, by decide +kernel⟩, Or.inl (mt_in 637 (by decide +kernel) rfl), mt_in 575 (by decide +kernel) rfl, by decide +kernel⟩⟩
set_option maxRecDepth 100000 in
theorem mt_MS_r5 : mt_Pms (((9, 108), 9999)) := ⟨fun _ => mt_in 669 (by decide +kernel) rfl, fun h => absurd rfl h⟩
set_option maxRecDepth 100000 in
theorem mt_MS_r6 : mt_Pms (((9, 151), 140)) := ⟨fun h => absurd h (by decide), fun _ => ⟨⟨by decide, by decide +kernel⟩, Or.inl (mt_in 710 (by decide +kernel) rfl), mt_in 408 (by decide +kernel) rfl, by decide +kernel⟩⟩
set_option maxRecDepth 100000 in
theorem mt_MS_r7 : mt_Pms (((10, 39), 139)) := ⟨fun h => absurd h (by decide), fun _ => ⟨⟨by decide, by decide +kernel⟩, Or.inl (mt_in 597 (by decide +kernel) rfl), mt_in 598 (by decide +kernel) rfl, by decide +kernel⟩⟩
set_option maxRecDepth 100000 in
theorem mt_MS_r8 : mt_Pms (((12, 44), 138)) := ⟨fun h => absurd h (by decide), fun _ => ⟨⟨by decide, by decide +kernel⟩, Or.inl (mt_in 574 (by decide +kernel) rfl), mt_in 575 (by decide +kernel) rfl, by decide +kernel⟩⟩
set_option maxRecDepth 100000 in
theorem mt_MS_r9 : mt_Pms (((12, 54), 141)) := ⟨fun h => absurd h (by decide), fun _ => ⟨⟨by decide, by decide +kernel⟩, Or.inl (mt_in 581 (by decide +kernel) rfl), mt_in 411 (by decide +kernel) rfl, by decide +kernel⟩⟩
set_option maxRecDepth 100000 in
theorem mt_MS_r10 : mt_Pms (((12, 59), 140)) := ⟨fun h => absurd h (by decide), fun _ => ⟨⟨by decide, by decide +kernel⟩, Or.inl (mt_in 582 (by decide +kernel) rfl), mt_in 408 (by decide +kernel) rfl, by decide +kernel⟩⟩
set_option maxRecDepth 100000 in
theorem mt_MS_r11 : mt_Pms (((14, 81), 85)) := ⟨fun h => absurd h (by decide), fun _ => ⟨⟨by decide, by decide +kernel⟩, Or.inl (mt_in 870 (by decide +kernel) rfl), mt_in 871 (by decide +kernel) rfl, by decide +kernel⟩⟩
set_option maxRecDepth 100000 in
theorem mt_MS_r12 : mt_Pms (((14, 179), 114)) := ⟨fun h => absurd h (by decide), fun _ => ⟨⟨by decide, by decide +kernel⟩, Or.inl (mt_in 984 (by decide +kernel) rfl), mt_in 985 (by decide +kernel) rfl, by decide +kernel⟩⟩
set_option maxRecDepth 100000 in
theorem mt_MS_r13 : mt_Pms (((14, 188), 113)) := ⟨fun h => absurd h (by decide), fun _ => ⟨⟨by decide, by decide +kernel⟩, Or.inl (mt_in 981 (by decide +kernel) rfl), mt_in 982 (by decide +kernel) rfl, by decide +kernel⟩⟩
set_option maxRecDepth 100000 in
theorem mt_MS_r14 : mt_Pms (((17, 637), 147)) := ⟨fun h => absurd h (by decide), fun _ => ⟨⟨by decide, by decide +kernel⟩, Or.inl (mt_in 401 (by decide +kernel) rfl), mt_in 402 (by decide +kernel) rfl, by decide +kernel⟩⟩
set_option maxRecDepth 100000 in
theorem mt_MS_r15 : mt_Pms (((18, 38), 141)) := ⟨fun h => absurd h (by decide), fun _ => ⟨⟨by decide, by decide +kernel⟩, Or.inl (mt_in 410 (by decide +kernel) rfl), mt_in 411 (by decide +kernel) rfl, by decide +kernel⟩⟩
set_option maxRecDepth 100000 in
theorem mt_MS_r16 : mt_Pms (((18, 88), 148)) := ⟨fun h => absurd h (by decide), fun _ => ⟨⟨by decide, by decide +kernel⟩, Or.inl (mt_in 404 (by decide +kernel) rfl), mt_in 405 (by decide +kernel) rfl, by decide +kernel⟩⟩
set_option maxRecDepth 100000 in
theorem mt_MS_r17 : mt_Pms (((18, 92), 140)) := ⟨fun h => absurd h (by decide), fun _ => ⟨⟨by decide, by decide +kernel⟩, Or.inl (mt_in 407 (by decide +kernel) rfl), mt_in 408 (by decide +kernel) rfl, by decide +kernel⟩⟩
set_option maxRecDepth 100000 in
theorem mt_MS_r18 : mt_Pms (((18, 95), 149)) := ⟨fun h => absurd h (by decide), fun _ => ⟨⟨by decide, by decide +kernel⟩, Or.inl (mt_in 413 (by decide +kernel) rfl), mt_in 414 (by decide +kernel) rfl, by decide +kernel⟩⟩
def mt_MS_0 : List ((Nat × Nat) × Nat) := [((1, 194), 9999), ((3, 35), 137), ((8, 74), 139), ((8, 86), 138), ((9, 65), 138), ((9, 108), 9999), ((9, 151), 140), ((10, 39), 139), ((12, 44), 138), ((12, 54), 141), ((12, 59), 140), ((14, 81), 85), ((14, 179), 114), ((14, 188), 113), ((17, 637), 147), ((18, 38), 141), ((18, 88), 148), ((18, 92), 140), ((18, 95), 149)]
theorem mt_MS_a0 : ∀ e ∈ mt_MS_0, mt_Pms e := List.forall_mem_cons.mpr ⟨mt_MS_r0, List.forall_mem_cons.mpr ⟨mt_MS_r1, List.forall_mem_cons.mpr ⟨mt_MS_r2, List.forall_mem_cons.mpr ⟨mt_MS_r3, List.forall_mem_cons.mpr ⟨mt_MS_r4, List.forall_mem_cons.mpr ⟨mt_MS_r5, List.forall_mem_cons.mpr ⟨mt_MS_r6, List.forall_mem_cons.mpr ⟨mt_MS_r7, List.forall_mem_cons.mpr ⟨mt_MS_r8, List.forall_mem_cons.mpr ⟨mt_MS_r9, List.forall_mem_cons.mpr ⟨mt_MS_r10, List.forall_mem_cons.mpr ⟨mt_MS_r11, List.forall_mem_cons.mpr ⟨mt_MS_r12, List.forall_mem_cons.mpr ⟨mt_MS_r13, List.forall_mem_cons.mpr ⟨mt_MS_r14, List.forall_mem_cons.mpr ⟨mt_MS_r15, List.forall_mem_cons.mpr ⟨mt_MS_r16, List.forall_mem_cons.mpr ⟨mt_MS_r17, List.forall_mem_cons.mpr ⟨mt_MS_r18, fun _ h => absurd h List.not_mem_nil⟩⟩⟩⟩⟩⟩⟩⟩⟩⟩⟩⟩⟩⟩⟩⟩⟩⟩⟩
def mt_MS : List ((Nat × Nat) × Nat) := mt_MS_0
theorem mt_MS_all : ∀ e ∈ mt_MS, mt_Pms e := by
  show ∀ e ∈ mt_MS_0, mt_Pms e
  exact mt_MS_a0
set_option maxRecDepth 100000 in
theorem mt_MI_r0 : mt_Pmi (((1, 1), 9999)) := ⟨fun _ => mt_in 28 (by decide +kernel) rfl, fun h => absurd rfl h⟩
set_option maxRecDepth 100000 in
theorem mt_MI_r1 : mt_Pmi (((1, 9), 2)) := ⟨fun h => absurd h (by decide), fun _ => ⟨⟨by decide, by decide +kernel⟩, Or.inl (mt_in 33 (by decide +kernel) rfl), mt_in 34 (by decide +kernel) rfl, rfl, rfl, by decide +kernel⟩⟩
set_option maxRecDepth 100000 in
theorem mt_MI_r2 : mt_Pmi (((1, 18), 4)) := ⟨fun h => absurd h (by decide), fun _ => ⟨⟨by decide, by decide +kernel⟩, Or.inl (mt_in 81 (by decide +kernel) rfl), mt_in 82 (by decide +kernel) rfl, rfl, rfl, by decide +kernel⟩⟩
set_option maxRecDepth 100000 in
theorem mt_MI_r3 : mt_Pmi (((1, 27), 5)) := ⟨fun h => absurd h (by decide), fun _ => ⟨⟨by decide, by decide +kernel⟩, Or.inr ⟨"HealBench", mt_nin 117 (by decide +kernel) rfl⟩, mt_in 118 (by decide +kernel) rfl, rfl, rfl, by decide +kernel⟩⟩
set_option maxRecDepth 100000 in
theorem mt_MI_r4 : mt_Pmi (((1, 34), 6)) := ⟨fun h => absurd h (by decide), fun _ => ⟨⟨by decide, by decide +kernel⟩, Or.inl (mt_in 144 (by decide +kernel) rfl), mt_in 145 (by decide +kernel) rfl, rfl, rfl, by decide +kernel⟩⟩
set_option maxRecDepth 100000 in
theorem mt_MI_r5 : mt_Pmi (((1, 200), 19)) := ⟨fun h => absurd h (by decide), fun _ => ⟨⟨by decide, by decide +kernel⟩, Or.inl (mt_in 296 (by decide +kernel) rfl), mt_in 297 (by decide +kernel) rfl, rfl, rfl, by decide +kernel⟩⟩
set_option maxRecDepth 100000 in
theorem mt_MI_r6 : mt_Pmi (((2, 1), 26)) := ⟨fun h => absurd h (by decide), fun _ => ⟨⟨by decide, by decide +kernel⟩, Or.inr ⟨"HealBench", mt_nin 491 (by decide +kernel) rfl⟩, mt_in 337 (by decide +kernel) rfl, rfl, rfl, by decide +kernel⟩⟩
set_option maxRecDepth 100000 in
theorem mt_MI_r7 : mt_Pmi (((3, 3), 9999)) := ⟨fun _ => mt_in 36 (by decide +kernel) rfl, fun h => absurd rfl h⟩
set_option maxRecDepth 100000 in
theorem mt_MI_r8 : mt_Pmi (((4, 1), 26)) := ⟨fun h => absurd h (by decide), fun _ => ⟨⟨by decide, by decide +kernel⟩, Or.inr ⟨"HealBench", mt_nin 358 (by decide +kernel) rfl⟩, mt_in 337 (by decide +kernel) rfl, rfl, rfl, by decide +kernel⟩⟩
set_option maxRecDepth 100000 in
theorem mt_MI_r9 : mt_Pmi (((5, 1), 26)) := ⟨fun h => absurd h (by decide), fun _ => ⟨⟨by decide, by decide +kernel⟩, Or.inr ⟨"HealBench", mt_nin 336 (by decide +kernel) rfl⟩, mt_in 337 (by decide +kernel) rfl, rfl, rfl, by decide +kernel⟩⟩
set_option maxRecDepth 100000 in
theorem mt_MI_r10 : mt_Pmi (((6, 1), 26)) := ⟨fun h => absurd h (by decide), fun _ => ⟨⟨by decide, by decide +kernel⟩, Or.inr ⟨"HealBench", mt_nin 507 (by decide +kernel) rfl⟩, mt_in 337 (by decide +kernel) rfl, rfl, rfl, by decide +kernel⟩⟩
set_option maxRecDepth 100000 in
theorem mt_MI_r11 : mt_Pmi (((7, 3), 9999)) := ⟨fun _ => mt_in 299 (by decide +kernel) rfl, fun h => absurd rfl h⟩
set_option maxRecDepth 100000 in
theorem mt_MI_r12 : mt_Pmi (((7, 39), 35)) := ⟨fun h => absurd h (by decide), fun _ => ⟨⟨by decide, by decide +kernel⟩, Or.inl (mt_in 504 (by decide +kernel) rfl), mt_in 505 (by decide +kernel) rfl, rfl, rfl, by decide +kernel⟩⟩
set_option maxRecDepth 100000 in
theorem mt_MI_r13 : mt_Pmi (((7, 47), 25)) := ⟨fun h => absurd h (by decide), fun _ => ⟨⟨by decide, by decide +kernel⟩, Or.inl (mt_in 333 (by decide +kernel) rfl), mt_in 334 (by decide +kernel) rfl, rfl, rfl, by decide +kernel⟩⟩
set_option maxRecDepth 100000 in
theorem mt_MI_r14 : mt_Pmi (((7, 59), 29)) := ⟨fun h => absurd h (by decide), fun _ => ⟨⟨by decide, by decide +kernel⟩, Or.inl (mt_in 355 (by decide +kernel) rfl), mt_in 356 (by decide +kernel) rfl, rfl, rfl, by decide +kernel⟩⟩
set_option maxRecDepth 100000 in
theorem mt_MI_r15 : mt_Pmi (((7, 72), 34)) := ⟨fun h => absurd h (by decide), fun _ => ⟨⟨by decide, by decide +kernel⟩, Or.inl (mt_in 488 (by decide +kernel) rfl), mt_in 489 (by decide +kernel) rfl, rfl, rfl, by decide +kernel⟩⟩
set_option maxRecDepth 100000 in
theorem mt_MI_r16 : mt_Pmi (((7, 81), 33)) := ⟨fun h => absurd h (by decide), fun _ => ⟨⟨by decide, by decide +kernel⟩, Or.inl (mt_in 468 (by decide +kernel) rfl), mt_in 469 (by decide +kernel) rfl, rfl, rfl, by decide +kernel⟩⟩
set_option maxRecDepth 100000 in
theorem mt_MI_r17 : mt_Pmi (((8, 3), 9999)) := ⟨fun _ => mt_in 120 (by decide +kernel) rfl, fun h => absurd rfl h⟩
set_option maxRecDepth 100000 in
theorem mt_MI_r18 : mt_Pmi (((9, 3), 9999)) := ⟨fun _ => mt_in 147 (by decide +kernel) rfl, fun h => absurd rfl h⟩
set_option maxRecDepth 100000 in
theorem mt_MI_r19 : mt_Pmi (((9, 51), 4)) := ⟨fun h => absurd h (by decide), fun _ => ⟨⟨by decide, by decide +kernel⟩, Or.inl (mt_in 149 (by decide +kernel) rfl), mt_in 82 (by decide +kernel) rfl, rfl, rfl, by decide +kernel⟩⟩
set_option maxRecDepth 100000 in
theorem mt_MI_r20 : mt_Pmi (((10, 1), 9999)) := ⟨fun _ => mt_in 471 (by decide +kernel) rfl, fun h => absurd rfl h⟩
set_option maxRecDepth 100000 in
theorem mt_MI_r21 : mt_Pmi (((11, 1), 9999)) := ⟨fun _ => mt_in 339 (by decide +kernel) rfl, fun h => absurd rfl h⟩
set_option maxRecDepth 100000 in
theorem mt_MI_r22 : mt_Pmi (((12, 3), 9999)) := ⟨fun _ => mt_in 84 (by decide +kernel) rfl, fun h => absurd rfl h⟩
set_option maxRecDepth 100000 in
theorem mt_MI_r23 : mt_Pmi (((13, 9), 1)) := ⟨fun h => absurd h (by decide), fun _ => ⟨⟨by decide, by decide +kernel⟩, Or.inl (mt_in 25 (by decide +kernel) rfl), mt_in 26 (by decide +kernel) rfl, rfl, rfl, by decide +kernel⟩⟩
def mt_MI_0 : List ((Nat × Nat) × Nat) := [((1, 1), 9999), ((1, 9), 2), ((1, 18), 4), ((1, 27), 5), ((1, 34), 6), ((1, 200), 19), ((2, 1), 26), ((3, 3), 9999), ((4, 1), 26), ((5, 1), 26), ((6, 1), 26), ((7, 3), 9999), ((7, 39), 35), ((7, 47), 25), ((7, 59), 29), ((7, 72), 34), ((7, 81), 33), ((8, 3), 9999), ((9, 3), 9999), ((9, 51), 4), ((10, 1), 9999), ((11, 1), 9999), ((12, 3), 9999), ((13, 9), 1)]
theorem mt_MI_a0 : ∀ e ∈ mt_MI_0, mt_Pmi e := List.forall_mem_cons.mpr ⟨mt_MI_r0, List.forall_mem_cons.mpr ⟨mt_MI_r1, List.forall_mem_cons.mpr ⟨mt_MI_r2, List.forall_mem_cons.mpr ⟨mt_MI_r3, List.forall_mem_cons.mpr ⟨mt_MI_r4, List.forall_mem_cons.mpr ⟨mt_MI_r5, List.forall_mem_cons.mpr ⟨mt_MI_r6, List.forall_mem_cons.mpr ⟨mt_MI_r7, List.forall_mem_cons.mpr ⟨mt_MI_r8, List.forall_mem_cons.mpr ⟨mt_MI_r9, List.forall_mem_cons.mpr ⟨mt_MI_r10, List.forall_mem_cons.mpr ⟨mt_MI_r11, List.forall_mem_cons.mpr ⟨mt_MI_r12, List.forall_mem_cons.mpr ⟨mt_MI_r13, List.forall_mem_cons.mpr ⟨mt_MI_r14, List.forall_mem_cons.mpr ⟨mt_MI_r15, List.forall_mem_cons.mpr ⟨mt_MI_r16, List.forall_mem_cons.mpr ⟨mt_MI_r17, List.forall_mem_cons.mpr ⟨mt_MI_r18, List.forall_mem_cons.mpr ⟨mt_MI_r19, List.forall_mem_cons.mpr ⟨mt_MI_r20, List.forall_mem_cons.mpr ⟨mt_MI_r21, List.forall_mem_cons.mpr ⟨mt_MI_r22, List.forall_mem_cons.mpr ⟨mt_MI_r23, fun _ h => absurd h List.not_mem_nil⟩⟩⟩⟩⟩⟩⟩⟩⟩⟩⟩⟩⟩⟩⟩⟩⟩⟩⟩⟩⟩⟩⟩⟩
set_option maxRecDepth 100000 in
theorem mt_MI_r24 : mt_Pmi (((13, 12), 82)) := ⟨fun h => absurd h (by decide), fun _ => ⟨⟨by decide, by decide +kernel⟩, Or.inl (mt_in 737 (by decide +kernel) rfl), mt_in 738 (by decide +kernel) rfl, rfl, rfl, by decide +kernel⟩⟩
set_option maxRecDepth 100000 in
theorem mt_MI_r25 : mt_Pmi (((14, 1), 9999)) := ⟨fun _ => mt_in 740 (by decide +kernel) rfl, fun h => absurd rfl h⟩
def mt_MI_1 : List ((Nat × Nat) × Nat) := [((13, 12), 82), ((14, 1), 9999)]
theorem mt_MI_a1 : ∀ e ∈ mt_MI_1, mt_Pmi e := List.forall_mem_cons.mpr ⟨mt_MI_r24, List.forall_mem_cons.mpr ⟨mt_MI_r25, fun _ h => absurd h List.not_mem_nil⟩⟩
def mt_MI : List ((Nat × Nat) × Nat) := mt_MI_0 ++ (mt_MI_1)
theorem mt_MI_all : ∀ e ∈ mt_MI, mt_Pmi e := by
  show ∀ e ∈ mt_MI_0 ++ (mt_MI_1), mt_Pmi e
  exact List.forall_mem_append.mpr ⟨mt_MI_a0, mt_MI_a1⟩
set_option maxRecDepth 100000 in
theorem mt_MV_r0 : mt_Pmv (((1, 45), (3, [(2, 3)]))) := List.forall_mem_cons.mpr ⟨⟨⟨by decide, by decide +kernel⟩, mt_in 39 (by decide +kernel) rfl, by decide +kernel, ("HealBench$Graph", mt_F2, 6), rfl, Or.inr (Or.inl ⟨"HealBench", mt_nin 246 (by decide +kernel) rfl, mt_inS (q := (⟨"HealBench$Graph", "renew", "(II)V"⟩, 6)) 0 (by decide +kernel)⟩)⟩, fun _ h => absurd h List.not_mem_nil⟩
set_option maxRecDepth 100000 in
theorem mt_MV_r1 : mt_Pmv (((1, 49), (1, [(7, 8)]))) := List.forall_mem_cons.mpr ⟨⟨⟨by decide, by decide +kernel⟩, mt_in 249 (by decide +kernel) rfl, by decide +kernel, ("HealBench$Rules", mt_F7, 5), rfl, Or.inr (Or.inl ⟨"HealBench", mt_nin 247 (by decide +kernel) rfl, mt_inS (q := (⟨"HealBench$Rules", "clear", "()V"⟩, 5)) 1 (by decide +kernel)⟩)⟩, fun _ h => absurd h List.not_mem_nil⟩
set_option maxRecDepth 100000 in
theorem mt_MV_r2 : mt_Pmv (((1, 52), (1, [(8, 10)]))) := List.forall_mem_cons.mpr ⟨⟨⟨by decide, by decide +kernel⟩, mt_in 257 (by decide +kernel) rfl, by decide +kernel, ("HealBench$Search", mt_F8, 18), rfl, Or.inr (Or.inl ⟨"HealBench", mt_nin 255 (by decide +kernel) rfl, mt_inS (q := (⟨"HealBench$Search", "forgetMoves", "()V"⟩, 18)) 3 (by decide +kernel)⟩)⟩, fun _ h => absurd h List.not_mem_nil⟩
set_option maxRecDepth 100000 in
theorem mt_MV_r3 : mt_Pmv (((1, 59), (1, [(0, 11)]))) := List.forall_mem_cons.mpr ⟨⟨⟨by decide, by decide +kernel⟩, mt_in 261 (by decide +kernel) rfl, by decide +kernel, ("HealBench", mt_F0, 9), rfl, Or.inl ⟨mt_in 259 (by decide +kernel) rfl, mt_inS (q := (⟨"HealBench", "startCounts", "()V"⟩, 9)) 4 (by decide +kernel)⟩⟩, fun _ h => absurd h List.not_mem_nil⟩
set_option maxRecDepth 100000 in
theorem mt_MV_r4 : mt_Pmv (((1, 65), (2, [(2, 13)]))) := List.forall_mem_cons.mpr ⟨⟨⟨by decide, by decide +kernel⟩, mt_in 269 (by decide +kernel) rfl, by decide +kernel, ("HealBench$Graph", mt_F2, 6), rfl, Or.inr (Or.inl ⟨"HealBench", mt_nin 267 (by decide +kernel) rfl, mt_inS (q := (⟨"HealBench$Graph", "has", "(I)Z"⟩, 6)) 5 (by decide +kernel)⟩)⟩, fun _ h => absurd h List.not_mem_nil⟩
set_option maxRecDepth 100000 in
theorem mt_MV_r5 : mt_Pmv (((1, 69), (3, [(2, 14)]))) := List.forall_mem_cons.mpr ⟨⟨⟨by decide, by decide +kernel⟩, mt_in 273 (by decide +kernel) rfl, by decide +kernel, ("HealBench$Graph", mt_F2, 6), rfl, Or.inr (Or.inl ⟨"HealBench", mt_nin 271 (by decide +kernel) rfl, mt_inS (q := (⟨"HealBench$Graph", "linked", "(II)Z"⟩, 6)) 6 (by decide +kernel)⟩)⟩, fun _ h => absurd h List.not_mem_nil⟩
set_option maxRecDepth 100000 in
theorem mt_MV_r6 : mt_Pmv (((1, 73), (3, [(2, 15)]))) := List.forall_mem_cons.mpr ⟨⟨⟨by decide, by decide +kernel⟩, mt_in 277 (by decide +kernel) rfl, by decide +kernel, ("HealBench$Graph", mt_F2, 6), rfl, Or.inr (Or.inl ⟨"HealBench", mt_nin 275 (by decide +kernel) rfl, mt_inS (q := (⟨"HealBench$Graph", "link", "(II)V"⟩, 6)) 7 (by decide +kernel)⟩)⟩, fun _ h => absurd h List.not_mem_nil⟩
set_option maxRecDepth 100000 in
theorem mt_MV_r7 : mt_Pmv (((1, 82), (1, [(0, 18)]))) := List.forall_mem_cons.mpr ⟨⟨⟨by decide, by decide +kernel⟩, mt_in 289 (by decide +kernel) rfl, by decide +kernel, ("HealBench", mt_F0, 9), rfl, Or.inl ⟨mt_in 287 (by decide +kernel) rfl, mt_inS (q := (⟨"HealBench", "takeText", "()LHealBench$Reader;"⟩, 9)) 8 (by decide +kernel)⟩⟩, fun _ h => absurd h List.not_mem_nil⟩
set_option maxRecDepth 100000 in
theorem mt_MV_r8 : mt_Pmv (((1, 89), (3, [(6, 20)]))) := List.forall_mem_cons.mpr ⟨⟨⟨by decide, by decide +kernel⟩, mt_in 313 (by decide +kernel) rfl, by decide +kernel, ("HealBench$Reader", mt_F6, 3), rfl, Or.inr (Or.inl ⟨"HealBench", mt_nin 311 (by decide +kernel) rfl, mt_inS (q := (⟨"HealBench$Reader", "readGuard", "(IZ)LHealBench$Test;"⟩, 3)) 9 (by decide +kernel)⟩)⟩, fun _ h => absurd h List.not_mem_nil⟩
set_option maxRecDepth 100000 in
theorem mt_MV_r9 : mt_Pmv (((1, 95), (2, [(6, 27)]))) := List.forall_mem_cons.mpr ⟨⟨⟨by decide, by decide +kernel⟩, mt_in 347 (by decide +kernel) rfl, by decide +kernel, ("HealBench$Reader", mt_F6, 3), rfl, Or.inr (Or.inl ⟨"HealBench", mt_nin 518 (by decide +kernel) rfl, mt_inS (q := (⟨"HealBench$Reader", "need", "(C)V"⟩, 3)) 14 (by decide +kernel)⟩)⟩, fun _ h => absurd h List.not_mem_nil⟩
set_option maxRecDepth 100000 in
theorem mt_MV_r10 : mt_Pmv (((1, 99), (2, [(6, 31)]))) := List.forall_mem_cons.mpr ⟨⟨⟨by decide, by decide +kernel⟩, mt_in 372 (by decide +kernel) rfl, by decide +kernel, ("HealBench$Reader", mt_F6, 3), rfl, Or.inr (Or.inl ⟨"HealBench", mt_nin 519 (by decide +kernel) rfl, mt_inS (q := (⟨"HealBench$Reader", "readSum", "(Z)LHealBench$Sum;"⟩, 3)) 17 (by decide +kernel)⟩)⟩, fun _ h => absurd h List.not_mem_nil⟩
set_option maxRecDepth 100000 in
theorem mt_MV_r11 : mt_Pmv (((1, 103), (1, [(6, 36)]))) := List.forall_mem_cons.mpr ⟨⟨⟨by decide, by decide +kernel⟩, mt_in 522 (by decide +kernel) rfl, by decide +kernel, ("HealBench$Reader", mt_F6, 3), rfl, Or.inr (Or.inl ⟨"HealBench", mt_nin 520 (by decide +kernel) rfl, mt_inS (q := (⟨"HealBench$Reader", "needEnd", "()V"⟩, 3)) 19 (by decide +kernel)⟩)⟩, fun _ h => absurd h List.not_mem_nil⟩
set_option maxRecDepth 100000 in
theorem mt_MV_r12 : mt_Pmv (((1, 109), (3, [(7, 37)]))) := List.forall_mem_cons.mpr ⟨⟨⟨by decide, by decide +kernel⟩, mt_in 526 (by decide +kernel) rfl, by decide +kernel, ("HealBench$Rules", mt_F7, 5), rfl, Or.inr (Or.inl ⟨"HealBench", mt_nin 524 (by decide +kernel) rfl, mt_inS (q := (⟨"HealBench$Rules", "add", "(LHealBench$Test;LHealBench$Sum;)V"⟩, 5)) 20 (by decide +kernel)⟩)⟩, fun _ h => absurd h List.not_mem_nil⟩
set_option maxRecDepth 100000 in
theorem mt_MV_r13 : mt_Pmv (((1, 113), (1, [(7, 39)]))) := List.forall_mem_cons.mpr ⟨⟨⟨by decide, by decide +kernel⟩, mt_in 534 (by decide +kernel) rfl, by decide +kernel, ("HealBench$Rules", mt_F7, 5), rfl, Or.inr (Or.inl ⟨"HealBench", mt_nin 532 (by decide +kernel) rfl, mt_inS (q := (⟨"HealBench$Rules", "removeLast", "()V"⟩, 5)) 21 (by decide +kernel)⟩)⟩, fun _ h => absurd h List.not_mem_nil⟩
set_option maxRecDepth 100000 in
theorem mt_MV_r14 : mt_Pmv (((1, 116), (3, [(7, 9)]))) := List.forall_mem_cons.mpr ⟨⟨⟨by decide, by decide +kernel⟩, mt_in 253 (by decide +kernel) rfl, by decide +kernel, ("HealBench$Rules", mt_F7, 5), rfl, Or.inr (Or.inl ⟨"HealBench", mt_nin 540 (by decide +kernel) rfl, mt_inS (q := (⟨"HealBench$Rules", "aimAt", "(ILHealBench$Test;)V"⟩, 5)) 2 (by decide +kernel)⟩)⟩, fun _ h => absurd h List.not_mem_nil⟩
set_option maxRecDepth 100000 in
theorem mt_MV_r15 : mt_Pmv (((1, 120), (1, [(8, 41)]))) := List.forall_mem_cons.mpr ⟨⟨⟨by decide, by decide +kernel⟩, mt_in 543 (by decide +kernel) rfl, by decide +kernel, ("HealBench$Search", mt_F8, 18), rfl, Or.inr (Or.inl ⟨"HealBench", mt_nin 541 (by decide +kernel) rfl, mt_inS (q := (⟨"HealBench$Search", "forgetVerdict", "()V"⟩, 18)) 22 (by decide +kernel)⟩)⟩, fun _ h => absurd h List.not_mem_nil⟩
set_option maxRecDepth 100000 in
theorem mt_MV_r16 : mt_Pmv (((1, 129), (3, [(2, 44)]))) := List.forall_mem_cons.mpr ⟨⟨⟨by decide, by decide +kernel⟩, mt_in 555 (by decide +kernel) rfl, by decide +kernel, ("HealBench$Graph", mt_F2, 6), rfl, Or.inr (Or.inl ⟨"HealBench", mt_nin 553 (by decide +kernel) rfl, mt_inS (q := (⟨"HealBench$Graph", "digit", "(II)I"⟩, 6)) 23 (by decide +kernel)⟩)⟩, fun _ h => absurd h List.not_mem_nil⟩
set_option maxRecDepth 100000 in
theorem mt_MV_r17 : mt_Pmv (((1, 137), (2, [(10, 47)]))) := List.forall_mem_cons.mpr ⟨⟨⟨by decide, by decide +kernel⟩, mt_in 567 (by decide +kernel) rfl, by decide +kernel, ("HealBench$View", mt_F10, 6), rfl, Or.inr (Or.inl ⟨"HealBench", mt_nin 565 (by decide +kernel) rfl, mt_inS (q := (⟨"HealBench$View", "load", "(I)V"⟩, 6)) 24 (by decide +kernel)⟩)⟩, fun _ h => absurd h List.not_mem_nil⟩
set_option maxRecDepth 100000 in
theorem mt_MV_r18 : mt_Pmv (((1, 141), (2, [(10, 48)]))) := List.forall_mem_cons.mpr ⟨⟨⟨by decide, by decide +kernel⟩, mt_in 572 (by decide +kernel) rfl, by decide +kernel, ("HealBench$View", mt_F10, 6), rfl, Or.inr (Or.inl ⟨"HealBench", mt_nin 570 (by decide +kernel) rfl, mt_inS (q := (⟨"HealBench$View", "standAt", "(I)V"⟩, 6)) 25 (by decide +kernel)⟩)⟩, fun _ h => absurd h List.not_mem_nil⟩
set_option maxRecDepth 100000 in
theorem mt_MV_r19 : mt_Pmv (((1, 144), (2, [(7, 49)]))) := List.forall_mem_cons.mpr ⟨⟨⟨by decide, by decide +kernel⟩, mt_in 585 (by decide +kernel) rfl, by decide +kernel, ("HealBench$Rules", mt_F7, 5), rfl, Or.inr (Or.inl ⟨"HealBench", mt_nin 583 (by decide +kernel) rfl, mt_inS (q := (⟨"HealBench$Rules", "first", "(LHealBench$View;)I"⟩, 5)) 26 (by decide +kernel)⟩)⟩, fun _ h => absurd h List.not_mem_nil⟩
set_option maxRecDepth 100000 in
theorem mt_MV_r20 : mt_Pmv (((1, 148), (1, [(0, 57)]))) := List.forall_mem_cons.mpr ⟨⟨⟨by decide, by decide +kernel⟩, mt_in 623 (by decide +kernel) rfl, by decide +kernel, ("HealBench", mt_F0, 9), rfl, Or.inl ⟨mt_in 621 (by decide +kernel) rfl, mt_inS (q := (⟨"HealBench", "lookAround", "()V"⟩, 9)) 29 (by decide +kernel)⟩⟩, fun _ h => absurd h List.not_mem_nil⟩
set_option maxRecDepth 100000 in
theorem mt_MV_r21 : mt_Pmv (((1, 154), (3, [(8, 59)]))) := List.forall_mem_cons.mpr ⟨⟨⟨by decide, by decide +kernel⟩, mt_in 635 (by decide +kernel) rfl, by decide +kernel, ("HealBench$Search", mt_F8, 18), rfl, Or.inr (Or.inl ⟨"HealBench", mt_nin 633 (by decide +kernel) rfl, mt_inS (q := (⟨"HealBench$Search", "allows", "(II)Z"⟩, 18)) 31 (by decide +kernel)⟩)⟩, fun _ h => absurd h List.not_mem_nil⟩
set_option maxRecDepth 100000 in
theorem mt_MV_r22 : mt_Pmv (((1, 169), (2, [(7, 61)]))) := List.forall_mem_cons.mpr ⟨⟨⟨by decide, by decide +kernel⟩, mt_in 644 (by decide +kernel) rfl, by decide +kernel, ("HealBench$Rules", mt_F7, 5), rfl, Or.inr (Or.inl ⟨"HealBench", mt_nin 642 (by decide +kernel) rfl, mt_inS (q := (⟨"HealBench$Rules", "meetAim", "(LHealBench$View;)Z"⟩, 5)) 32 (by decide +kernel)⟩)⟩, fun _ h => absurd h List.not_mem_nil⟩
set_option maxRecDepth 100000 in
theorem mt_MV_r23 : mt_Pmv (((1, 173), (1, [(8, 65)]))) := List.forall_mem_cons.mpr ⟨⟨⟨by decide, by decide +kernel⟩, mt_in 661 (by decide +kernel) rfl, by decide +kernel, ("HealBench$Search", mt_F8, 18), rfl, Or.inr (Or.inl ⟨"HealBench", mt_nin 659 (by decide +kernel) rfl, mt_inS (q := (⟨"HealBench$Search", "judge", "()V"⟩, 18)) 33 (by decide +kernel)⟩)⟩, fun _ h => absurd h List.not_mem_nil⟩
def mt_MV_0 : List ((Nat × Nat) × (Nat × List (Nat × Nat))) := [((1, 45), (3, [(2, 3)])), ((1, 49), (1, [(7, 8)])), ((1, 52), (1, [(8, 10)])), ((1, 59), (1, [(0, 11)])), ((1, 65), (2, [(2, 13)])), ((1, 69), (3, [(2, 14)])), ((1, 73), (3, [(2, 15)])), ((1, 82), (1, [(0, 18)])), ((1, 89), (3, [(6, 20)])), ((1, 95), (2, [(6, 27)])), ((1, 99), (2, [(6, 31)])), ((1, 103), (1, [(6, 36)])), ((1, 109), (3, [(7, 37)])), ((1, 113), (1, [(7, 39)])), ((1, 116), (3, [(7, 9)])), ((1, 120), (1, [(8, 41)])), ((1, 129), (3, [(2, 44)])), ((1, 137), (2, [(10, 47)])), ((1, 141), (2, [(10, 48)])), ((1, 144), (2, [(7, 49)])), ((1, 148), (1, [(0, 57)])), ((1, 154), (3, [(8, 59)])), ((1, 169), (2, [(7, 61)])), ((1, 173), (1, [(8, 65)]))]
theorem mt_MV_a0 : ∀ e ∈ mt_MV_0, mt_Pmv e := List.forall_mem_cons.mpr ⟨mt_MV_r0, List.forall_mem_cons.mpr ⟨mt_MV_r1, List.forall_mem_cons.mpr ⟨mt_MV_r2, List.forall_mem_cons.mpr ⟨mt_MV_r3, List.forall_mem_cons.mpr ⟨mt_MV_r4, List.forall_mem_cons.mpr ⟨mt_MV_r5, List.forall_mem_cons.mpr ⟨mt_MV_r6, List.forall_mem_cons.mpr ⟨mt_MV_r7, List.forall_mem_cons.mpr ⟨mt_MV_r8, List.forall_mem_cons.mpr ⟨mt_MV_r9, List.forall_mem_cons.mpr ⟨mt_MV_r10, List.forall_mem_cons.mpr ⟨mt_MV_r11, List.forall_mem_cons.mpr ⟨mt_MV_r12, List.forall_mem_cons.mpr ⟨mt_MV_r13, List.forall_mem_cons.mpr ⟨mt_MV_r14, List.forall_mem_cons.mpr ⟨mt_MV_r15, List.forall_mem_cons.mpr ⟨mt_MV_r16, List.forall_mem_cons.mpr ⟨mt_MV_r17, List.forall_mem_cons.mpr ⟨mt_MV_r18, List.forall_mem_cons.mpr ⟨mt_MV_r19, List.forall_mem_cons.mpr ⟨mt_MV_r20, List.forall_mem_cons.mpr ⟨mt_MV_r21, List.forall_mem_cons.mpr ⟨mt_MV_r22, List.forall_mem_cons.mpr ⟨mt_MV_r23, fun _ h => absurd h List.not_mem_nil⟩⟩⟩⟩⟩⟩⟩⟩⟩⟩⟩⟩⟩⟩⟩⟩⟩⟩⟩⟩⟩⟩⟩⟩
set_option maxRecDepth 100000 in
theorem mt_MV_r24 : mt_Pmv (((1, 203), (2, [(7, 58)]))) := List.forall_mem_cons.mpr ⟨⟨⟨by decide, by decide +kernel⟩, mt_in 627 (by decide +kernel) rfl, by decide +kernel, ("HealBench$Rules", mt_F7, 5), rfl, Or.inr (Or.inl ⟨"HealBench", mt_nin 625 (by decide +kernel) rfl, mt_inS (q := (⟨"HealBench$Rules", "findMoves", "(LHealBench$View;)V"⟩, 5)) 30 (by decide +kernel)⟩)⟩, fun _ h => absurd h List.not_mem_nil⟩
set_option maxRecDepth 100000 in
theorem mt_MV_r25 : mt_Pmv (((2, 20), (2, [(9, 51)]))) := List.forall_mem_cons.mpr ⟨⟨⟨by decide, by decide +kernel⟩, mt_in 595 (by decide +kernel) rfl, by decide +kernel, ("HealBench$Sum", mt_F9, 4), rfl, Or.inr (Or.inl ⟨"HealBench", mt_nin 593 (by decide +kernel) rfl, mt_inS (q := (⟨"HealBench$Sum", "total", "(LHealBench$View;)I"⟩, 4)) 27 (by decide +kernel)⟩)⟩, fun _ h => absurd h List.not_mem_nil⟩
set_option maxRecDepth 100000 in
theorem mt_MV_r26 : mt_Pmv (((3, 18), (3, [(2, 3)]))) := List.forall_mem_cons.mpr ⟨⟨⟨by decide, by decide +kernel⟩, mt_in 39 (by decide +kernel) rfl, by decide +kernel, ("HealBench$Graph", mt_F2, 6), rfl, Or.inl ⟨mt_in 37 (by decide +kernel) rfl, mt_inS (q := (⟨"HealBench$Graph", "renew", "(II)V"⟩, 6)) 0 (by decide +kernel)⟩⟩, fun _ h => absurd h List.not_mem_nil⟩
set_option maxRecDepth 100000 in
theorem mt_MV_r27 : mt_Pmv (((4, 32), (3, [(2, 14)]))) := List.forall_mem_cons.mpr ⟨⟨⟨by decide, by decide +kernel⟩, mt_in 273 (by decide +kernel) rfl, by decide +kernel, ("HealBench$Graph", mt_F2, 6), rfl, Or.inr (Or.inl ⟨"HealBench", mt_nin 603 (by decide +kernel) rfl, mt_inS (q := (⟨"HealBench$Graph", "linked", "(II)Z"⟩, 6)) 6 (by decide +kernel)⟩)⟩, fun _ h => absurd h List.not_mem_nil⟩
set_option maxRecDepth 100000 in
theorem mt_MV_r28 : mt_Pmv (((4, 36), (2, [(10, 53)]))) := List.forall_mem_cons.mpr ⟨⟨⟨by decide, by decide +kernel⟩, mt_in 606 (by decide +kernel) rfl, by decide +kernel, ("HealBench$View", mt_F10, 6), rfl, Or.inr (Or.inl ⟨"HealBench", mt_nin 604 (by decide +kernel) rfl, mt_inS (q := (⟨"HealBench$View", "lookAt", "(I)V"⟩, 6)) 28 (by decide +kernel)⟩)⟩, fun _ h => absurd h List.not_mem_nil⟩
set_option maxRecDepth 100000 in
theorem mt_MV_r29 : mt_Pmv (((4, 40), (2, [(1, 50), (3, 52), (4, 54), (5, 55)]))) := List.forall_mem_cons.mpr ⟨⟨⟨by decide, by decide +kernel⟩, mt_in 591 (by decide +kernel) rfl, by decide +kernel, ("HealBench$Comparison", mt_F1, 3), rfl, Or.inr (Or.inr ⟨⟨"HealBench$Test", "holds", "(LHealBench$View;)Z"⟩, "HealBench$Test", mt_in 608 (by decide +kernel) rfl, mt_in 589 (by decide +kernel) rfl, mt_in 590 (by decide +kernel) rfl, mt_nin 588 (by decide +kernel) rfl, by decide +kernel, by decide +kernel, rfl⟩)⟩, List.forall_mem_cons.mpr ⟨⟨⟨by decide, by decide +kernel⟩, mt_in 601 (by decide +kernel) rfl, by decide +kernel, ("HealBench$Neighbours", mt_F3, 2), rfl, Or.inr (Or.inr ⟨⟨"HealBench$Test", "holds", "(LHealBench$View;)Z"⟩, "HealBench$Test", mt_in 608 (by decide +kernel) rfl, mt_in 589 (by decide +kernel) rfl, mt_in 600 (by decide +kernel) rfl, mt_nin 588 (by decide +kernel) rfl, by decide +kernel, by decide +kernel, rfl⟩)⟩, List.forall_mem_cons.mpr ⟨⟨⟨by decide, by decide +kernel⟩, mt_in 609 (by decide +kernel) rfl, by decide +kernel, ("HealBench$Not", mt_F4, 1), rfl, Or.inr (Or.inr ⟨⟨"HealBench$Test", "holds", "(LHealBench$View;)Z"⟩, "HealBench$Test", mt_in 608 (by decide +kernel) rfl, mt_in 589 (by decide +kernel) rfl, mt_in 615 (by decide +kernel) rfl, mt_nin 588 (by decide +kernel) rfl, by decide +kernel, by decide +kernel, rfl⟩)⟩, List.forall_mem_cons.mpr ⟨⟨⟨by decide, by decide +kernel⟩, mt_in 612 (by decide +kernel) rfl, by decide +kernel, ("HealBench$Pair", mt_F5, 3), rfl, Or.inr (Or.inr ⟨⟨"HealBench$Test", "holds", "(LHealBench$View;)Z"⟩, "HealBench$Test", mt_in 608 (by decide +kernel) rfl, mt_in 589 (by decide +kernel) rfl, mt_in 616 (by decide +kernel) rfl, mt_nin 588 (by decide +kernel) rfl, by decide +kernel, by decide +kernel, rfl⟩)⟩, fun _ h => absurd h List.not_mem_nil⟩⟩⟩⟩
set_option maxRecDepth 100000 in
theorem mt_MV_r30 : mt_Pmv (((5, 13), (2, [(1, 50), (3, 52), (4, 54), (5, 55)]))) := List.forall_mem_cons.mpr ⟨⟨⟨by decide, by decide +kernel⟩, mt_in 591 (by decide +kernel) rfl, by decide +kernel, ("HealBench$Comparison", mt_F1, 3), rfl, Or.inr (Or.inr ⟨⟨"HealBench$Test", "holds", "(LHealBench$View;)Z"⟩, "HealBench$Test", mt_in 611 (by decide +kernel) rfl, mt_in 589 (by decide +kernel) rfl, mt_in 590 (by decide +kernel) rfl, mt_nin 588 (by decide +kernel) rfl, by decide +kernel, by decide +kernel, rfl⟩)⟩, List.forall_mem_cons.mpr ⟨⟨⟨by decide, by decide +kernel⟩, mt_in 601 (by decide +kernel) rfl, by decide +kernel, ("HealBench$Neighbours", mt_F3, 2), rfl, Or.inr (Or.inr ⟨⟨"HealBench$Test", "holds", "(LHealBench$View;)Z"⟩, "HealBench$Test", mt_in 611 (by decide +kernel) rfl, mt_in 589 (by decide +kernel) rfl, mt_in 600 (by decide +kernel) rfl, mt_nin 588 (by decide +kernel) rfl, by decide +kernel, by decide +kernel, rfl⟩)⟩, List.forall_mem_cons.mpr ⟨⟨⟨by decide, by decide +kernel⟩, mt_in 609 (by decide +kernel) rfl, by decide +kernel, ("HealBench$Not", mt_F4, 1), rfl, Or.inr (Or.inr ⟨⟨"HealBench$Test", "holds", "(LHealBench$View;)Z"⟩, "HealBench$Test", mt_in 611 (by decide +kernel) rfl, mt_in 589 (by decide +kernel) rfl, mt_in 615 (by decide +kernel) rfl, mt_nin 588 (by decide +kernel) rfl, by decide +kernel, by decide +kernel, rfl⟩)⟩, List.forall_mem_cons.mpr ⟨⟨⟨by decide, by decide +kernel⟩, mt_in 612 (by decide +kernel) rfl, by decide +kernel, ("HealBench$Pair", mt_F5, 3), rfl, Or.inr (Or.inr ⟨⟨"HealBench$Test", "holds", "(LHealBench$View;)Z"⟩, "HealBench$Test", mt_in 611 (by decide +kernel) rfl, mt_in 589 (by decide +kernel) rfl, mt_in 616 (by decide +kernel) rfl, mt_nin 588 (by decide +kernel) rfl, by decide +kernel, by decide +kernel, rfl⟩)⟩, fun _ h => absurd h List.not_mem_nil⟩⟩⟩⟩
set_option maxRecDepth 100000 in
theorem mt_MV_r31 : mt_Pmv (((6, 20), (2, [(1, 50), (3, 52), (4, 54), (5, 55)]))) := List.forall_mem_cons.mpr ⟨⟨⟨by decide, by decide +kernel⟩, mt_in 591 (by decide +kernel) rfl, by decide +kernel, ("HealBench$Comparison", mt_F1, 3), rfl, Or.inr (Or.inr ⟨⟨"HealBench$Test", "holds", "(LHealBench$View;)Z"⟩, "HealBench$Test", mt_in 614 (by decide +kernel) rfl, mt_in 589 (by decide +kernel) rfl, mt_in 590 (by decide +kernel) rfl, mt_nin 588 (by decide +kernel) rfl, by decide +kernel, by decide +kernel, rfl⟩)⟩, List.forall_mem_cons.mpr ⟨⟨⟨by decide, by decide +kernel⟩, mt_in 601 (by decide +kernel) rfl, by decide +kernel, ("HealBench$Neighbours", mt_F3, 2), rfl, Or.inr (Or.inr ⟨⟨"HealBench$Test", "holds", "(LHealBench$View;)Z"⟩, "HealBench$Test", mt_in 614 (by decide +kernel) rfl, mt_in 589 (by decide +kernel) rfl, mt_in 600 (by decide +kernel) rfl, mt_nin 588 (by decide +kernel) rfl, by decide +kernel, by decide +kernel, rfl⟩)⟩, List.forall_mem_cons.mpr ⟨⟨⟨by decide, by decide +kernel⟩, mt_in 609 (by decide +kernel) rfl, by decide +kernel, ("HealBench$Not", mt_F4, 1), rfl, Or.inr (Or.inr ⟨⟨"HealBench$Test", "holds", "(LHealBench$View;)Z"⟩, "HealBench$Test", mt_in 614 (by decide +kernel) rfl, mt_in 589 (by decide +kernel) rfl, mt_in 615 (by decide +kernel) rfl, mt_nin 588 (by decide +kernel) rfl, by decide +kernel, by decide +kernel, rfl⟩)⟩, List.forall_mem_cons.mpr ⟨⟨⟨by decide, by decide +kernel⟩, mt_in 612 (by decide +kernel) rfl, by decide +kernel, ("HealBench$Pair", mt_F5, 3), rfl, Or.inr (Or.inr ⟨⟨"HealBench$Test", "holds", "(LHealBench$View;)Z"⟩, "HealBench$Test", mt_in 614 (by decide +kernel) rfl, mt_in 589 (by decide +kernel) rfl, mt_in 616 (by decide +kernel) rfl, mt_nin 588 (by decide +kernel) rfl, by decide +kernel, by decide +kernel, rfl⟩)⟩, fun _ h => absurd h List.not_mem_nil⟩⟩⟩⟩
set_option maxRecDepth 100000 in
theorem mt_MV_r32 : mt_Pmv (((7, 22), (1, [(6, 24)]))) := List.forall_mem_cons.mpr ⟨⟨⟨by decide, by decide +kernel⟩, mt_in 329 (by decide +kernel) rfl, by decide +kernel, ("HealBench$Reader", mt_F6, 3), rfl, Or.inl ⟨mt_in 327 (by decide +kernel) rfl, mt_inS (q := (⟨"HealBench$Reader", "next", "()C"⟩, 3)) 13 (by decide +kernel)⟩⟩, fun _ h => absurd h List.not_mem_nil⟩
set_option maxRecDepth 100000 in
theorem mt_MV_r33 : mt_Pmv (((7, 26), (2, [(6, 23)]))) := List.forall_mem_cons.mpr ⟨⟨⟨by decide, by decide +kernel⟩, mt_in 325 (by decide +kernel) rfl, by decide +kernel, ("HealBench$Reader", mt_F6, 3), rfl, Or.inl ⟨mt_in 323 (by decide +kernel) rfl, mt_inS (q := (⟨"HealBench$Reader", "take", "(C)Z"⟩, 3)) 12 (by decide +kernel)⟩⟩, fun _ h => absurd h List.not_mem_nil⟩
set_option maxRecDepth 100000 in
theorem mt_MV_r34 : mt_Pmv (((7, 30), (1, [(6, 28)]))) := List.forall_mem_cons.mpr ⟨⟨⟨by decide, by decide +kernel⟩, mt_in 351 (by decide +kernel) rfl, by decide +kernel, ("HealBench$Reader", mt_F6, 3), rfl, Or.inl ⟨mt_in 349 (by decide +kernel) rfl, mt_inS (q := (⟨"HealBench$Reader", "refuse", "()V"⟩, 3)) 15 (by decide +kernel)⟩⟩, fun _ h => absurd h List.not_mem_nil⟩
set_option maxRecDepth 100000 in
theorem mt_MV_r35 : mt_Pmv (((7, 33), (3, [(6, 21)]))) := List.forall_mem_cons.mpr ⟨⟨⟨by decide, by decide +kernel⟩, mt_in 317 (by decide +kernel) rfl, by decide +kernel, ("HealBench$Reader", mt_F6, 3), rfl, Or.inl ⟨mt_in 315 (by decide +kernel) rfl, mt_inS (q := (⟨"HealBench$Reader", "readBoth", "(IZ)LHealBench$Test;"⟩, 3)) 10 (by decide +kernel)⟩⟩, fun _ h => absurd h List.not_mem_nil⟩
set_option maxRecDepth 100000 in
theorem mt_MV_r36 : mt_Pmv (((7, 42), (3, [(6, 22)]))) := List.forall_mem_cons.mpr ⟨⟨⟨by decide, by decide +kernel⟩, mt_in 321 (by decide +kernel) rfl, by decide +kernel, ("HealBench$Reader", mt_F6, 3), rfl, Or.inl ⟨mt_in 319 (by decide +kernel) rfl, mt_inS (q := (⟨"HealBench$Reader", "readTest", "(IZ)LHealBench$Test;"⟩, 3)) 11 (by decide +kernel)⟩⟩, fun _ h => absurd h List.not_mem_nil⟩
set_option maxRecDepth 100000 in
theorem mt_MV_r37 : mt_Pmv (((7, 50), (3, [(6, 20)]))) := List.forall_mem_cons.mpr ⟨⟨⟨by decide, by decide +kernel⟩, mt_in 313 (by decide +kernel) rfl, by decide +kernel, ("HealBench$Reader", mt_F6, 3), rfl, Or.inl ⟨mt_in 344 (by decide +kernel) rfl, mt_inS (q := (⟨"HealBench$Reader", "readGuard", "(IZ)LHealBench$Test;"⟩, 3)) 9 (by decide +kernel)⟩⟩, fun _ h => absurd h List.not_mem_nil⟩
set_option maxRecDepth 100000 in
theorem mt_MV_r38 : mt_Pmv (((7, 53), (2, [(6, 27)]))) := List.forall_mem_cons.mpr ⟨⟨⟨by decide, by decide +kernel⟩, mt_in 347 (by decide +kernel) rfl, by decide +kernel, ("HealBench$Reader", mt_F6, 3), rfl, Or.inl ⟨mt_in 345 (by decide +kernel) rfl, mt_inS (q := (⟨"HealBench$Reader", "need", "(C)V"⟩, 3)) 14 (by decide +kernel)⟩⟩, fun _ h => absurd h List.not_mem_nil⟩
set_option maxRecDepth 100000 in
theorem mt_MV_r39 : mt_Pmv (((7, 62), (2, [(6, 30)]))) := List.forall_mem_cons.mpr ⟨⟨⟨by decide, by decide +kernel⟩, mt_in 368 (by decide +kernel) rfl, by decide +kernel, ("HealBench$Reader", mt_F6, 3), rfl, Or.inl ⟨mt_in 366 (by decide +kernel) rfl, mt_inS (q := (⟨"HealBench$Reader", "readComparison", "(Z)LHealBench$Test;"⟩, 3)) 16 (by decide +kernel)⟩⟩, fun _ h => absurd h List.not_mem_nil⟩
set_option maxRecDepth 100000 in
theorem mt_MV_r40 : mt_Pmv (((7, 66), (2, [(6, 31)]))) := List.forall_mem_cons.mpr ⟨⟨⟨by decide, by decide +kernel⟩, mt_in 372 (by decide +kernel) rfl, by decide +kernel, ("HealBench$Reader", mt_F6, 3), rfl, Or.inl ⟨mt_in 370 (by decide +kernel) rfl, mt_inS (q := (⟨"HealBench$Reader", "readSum", "(Z)LHealBench$Sum;"⟩, 3)) 17 (by decide +kernel)⟩⟩, fun _ h => absurd h List.not_mem_nil⟩
set_option maxRecDepth 100000 in
theorem mt_MV_r41 : mt_Pmv (((7, 75), (2, [(6, 32)]))) := List.forall_mem_cons.mpr ⟨⟨⟨by decide, by decide +kernel⟩, mt_in 376 (by decide +kernel) rfl, by decide +kernel, ("HealBench$Reader", mt_F6, 3), rfl, Or.inl ⟨mt_in 374 (by decide +kernel) rfl, mt_inS (q := (⟨"HealBench$Reader", "readPart", "(Z)V"⟩, 3)) 18 (by decide +kernel)⟩⟩, fun _ h => absurd h List.not_mem_nil⟩
set_option maxRecDepth 100000 in
theorem mt_MV_r42 : mt_Pmv (((8, 30), (3, [(7, 9)]))) := List.forall_mem_cons.mpr ⟨⟨⟨by decide, by decide +kernel⟩, mt_in 253 (by decide +kernel) rfl, by decide +kernel, ("HealBench$Rules", mt_F7, 5), rfl, Or.inl ⟨mt_in 251 (by decide +kernel) rfl, mt_inS (q := (⟨"HealBench$Rules", "aimAt", "(ILHealBench$Test;)V"⟩, 5)) 2 (by decide +kernel)⟩⟩, fun _ h => absurd h List.not_mem_nil⟩
set_option maxRecDepth 100000 in
theorem mt_MV_r43 : mt_Pmv (((8, 38), (2, [(1, 50), (3, 52), (4, 54), (5, 55)]))) := List.forall_mem_cons.mpr ⟨⟨⟨by decide, by decide +kernel⟩, mt_in 591 (by decide +kernel) rfl, by decide +kernel, ("HealBench$Comparison", mt_F1, 3), rfl, Or.inr (Or.inr ⟨⟨"HealBench$Test", "holds", "(LHealBench$View;)Z"⟩, "HealBench$Test", mt_in 587 (by decide +kernel) rfl, mt_in 589 (by decide +kernel) rfl, mt_in 590 (by decide +kernel) rfl, mt_nin 588 (by decide +kernel) rfl, by decide +kernel, by decide +kernel, rfl⟩)⟩, List.forall_mem_cons.mpr ⟨⟨⟨by decide, by decide +kernel⟩, mt_in 601 (by decide +kernel) rfl, by decide +kernel, ("HealBench$Neighbours", mt_F3, 2), rfl, Or.inr (Or.inr ⟨⟨"HealBench$Test", "holds", "(LHealBench$View;)Z"⟩, "HealBench$Test", mt_in 587 (by decide +kernel) rfl, mt_in 589 (by decide +kernel) rfl, mt_in 600 (by decide +kernel) rfl, mt_nin 588 (by decide +kernel) rfl, by decide +kernel, by decide +kernel, rfl⟩)⟩, List.forall_mem_cons.mpr ⟨⟨⟨by decide, by decide +kernel⟩, mt_in 609 (by decide +kernel) rfl, by decide +kernel, ("HealBench$Not", mt_F4, 1), rfl, Or.inr (Or.inr ⟨⟨"HealBench$Test", "holds", "(LHealBench$View;)Z"⟩, "HealBench$Test", mt_in 587 (by decide +kernel) rfl, mt_in 589 (by decide +kernel) rfl, mt_in 615 (by decide +kernel) rfl, mt_nin 588 (by decide +kernel) rfl, by decide +kernel, by decide +kernel, rfl⟩)⟩, List.forall_mem_cons.mpr ⟨⟨⟨by decide, by decide +kernel⟩, mt_in 612 (by decide +kernel) rfl, by decide +kernel, ("HealBench$Pair", mt_F5, 3), rfl, Or.inr (Or.inr ⟨⟨"HealBench$Test", "holds", "(LHealBench$View;)Z"⟩, "HealBench$Test", mt_in 587 (by decide +kernel) rfl, mt_in 589 (by decide +kernel) rfl, mt_in 616 (by decide +kernel) rfl, mt_nin 588 (by decide +kernel) rfl, by decide +kernel, by decide +kernel, rfl⟩)⟩, fun _ h => absurd h List.not_mem_nil⟩⟩⟩⟩
set_option maxRecDepth 100000 in
theorem mt_MV_r44 : mt_Pmv (((8, 56), (2, [(10, 48)]))) := List.forall_mem_cons.mpr ⟨⟨⟨by decide, by decide +kernel⟩, mt_in 572 (by decide +kernel) rfl, by decide +kernel, ("HealBench$View", mt_F10, 6), rfl, Or.inr (Or.inl ⟨"HealBench", mt_nin 629 (by decide +kernel) rfl, mt_inS (q := (⟨"HealBench$View", "standAt", "(I)V"⟩, 6)) 25 (by decide +kernel)⟩)⟩, fun _ h => absurd h List.not_mem_nil⟩
set_option maxRecDepth 100000 in
theorem mt_MV_r45 : mt_Pmv (((8, 60), (2, [(7, 49)]))) := List.forall_mem_cons.mpr ⟨⟨⟨by decide, by decide +kernel⟩, mt_in 585 (by decide +kernel) rfl, by decide +kernel, ("HealBench$Rules", mt_F7, 5), rfl, Or.inl ⟨mt_in 630 (by decide +kernel) rfl, mt_inS (q := (⟨"HealBench$Rules", "first", "(LHealBench$View;)I"⟩, 5)) 26 (by decide +kernel)⟩⟩, fun _ h => absurd h List.not_mem_nil⟩
set_option maxRecDepth 100000 in
theorem mt_MV_r46 : mt_Pmv (((8, 68), (2, [(9, 51)]))) := List.forall_mem_cons.mpr ⟨⟨⟨by decide, by decide +kernel⟩, mt_in 595 (by decide +kernel) rfl, by decide +kernel, ("HealBench$Sum", mt_F9, 4), rfl, Or.inr (Or.inl ⟨"HealBench", mt_nin 631 (by decide +kernel) rfl, mt_inS (q := (⟨"HealBench$Sum", "total", "(LHealBench$View;)I"⟩, 4)) 27 (by decide +kernel)⟩)⟩, fun _ h => absurd h List.not_mem_nil⟩
set_option maxRecDepth 100000 in
theorem mt_MV_r47 : mt_Pmv (((9, 71), (1, [(8, 66)]))) := List.forall_mem_cons.mpr ⟨⟨⟨by decide, by decide +kernel⟩, mt_in 665 (by decide +kernel) rfl, by decide +kernel, ("HealBench$Search", mt_F8, 18), rfl, Or.inl ⟨mt_in 663 (by decide +kernel) rfl, mt_inS (q := (⟨"HealBench$Search", "findAllMoves", "()V"⟩, 18)) 34 (by decide +kernel)⟩⟩, fun _ h => absurd h List.not_mem_nil⟩
def mt_MV_1 : List ((Nat × Nat) × (Nat × List (Nat × Nat))) := [((1, 203), (2, [(7, 58)])), ((2, 20), (2, [(9, 51)])), ((3, 18), (3, [(2, 3)])), ((4, 32), (3, [(2, 14)])), ((4, 36), (2, [(10, 53)])), ((4, 40), (2, [(1, 50), (3, 52), (4, 54), (5, 55)])), ((5, 13), (2, [(1, 50), (3, 52), (4, 54), (5, 55)])), ((6, 20), (2, [(1, 50), (3, 52), (4, 54), (5, 55)])), ((7, 22), (1, [(6, 24)])), ((7, 26), (2, [(6, 23)])), ((7, 30), (1, [(6, 28)])), ((7, 33), (3, [(6, 21)])), ((7, 42), (3, [(6, 22)])), ((7, 50), (3, [(6, 20)])), ((7, 53), (2, [(6, 27)])), ((7, 62), (2, [(6, 30)])), ((7, 66), (2, [(6, 31)])), ((7, 75), (2, [(6, 32)])), ((8, 30), (3, [(7, 9)])), ((8, 38), (2, [(1, 50), (3, 52), (4, 54), (5, 55)])), ((8, 56), (2, [(10, 48)])), ((8, 60), (2, [(7, 49)])), ((8, 68), (2, [(9, 51)])), ((9, 71), (1, [(8, 66)]))]
theorem mt_MV_a1 : ∀ e ∈ mt_MV_1, mt_Pmv e := List.forall_mem_cons.mpr ⟨mt_MV_r24, List.forall_mem_cons.mpr ⟨mt_MV_r25, List.forall_mem_cons.mpr ⟨mt_MV_r26, List.forall_mem_cons.mpr ⟨mt_MV_r27, List.forall_mem_cons.mpr ⟨mt_MV_r28, List.forall_mem_cons.mpr ⟨mt_MV_r29, List.forall_mem_cons.mpr ⟨mt_MV_r30, List.forall_mem_cons.mpr ⟨mt_MV_r31, List.forall_mem_cons.mpr ⟨mt_MV_r32, List.forall_mem_cons.mpr ⟨mt_MV_r33, List.forall_mem_cons.mpr ⟨mt_MV_r34, List.forall_mem_cons.mpr ⟨mt_MV_r35, List.forall_mem_cons.mpr ⟨mt_MV_r36, List.forall_mem_cons.mpr ⟨mt_MV_r37, List.forall_mem_cons.mpr ⟨mt_MV_r38, List.forall_mem_cons.mpr ⟨mt_MV_r39, List.forall_mem_cons.mpr ⟨mt_MV_r40, List.forall_mem_cons.mpr ⟨mt_MV_r41, List.forall_mem_cons.mpr ⟨mt_MV_r42, List.forall_mem_cons.mpr ⟨mt_MV_r43, List.forall_mem_cons.mpr ⟨mt_MV_r44, List.forall_mem_cons.mpr ⟨mt_MV_r45, List.forall_mem_cons.mpr ⟨mt_MV_r46, List.forall_mem_cons.mpr ⟨mt_MV_r47, fun _ h => absurd h List.not_mem_nil⟩⟩⟩⟩⟩⟩⟩⟩⟩⟩⟩⟩⟩⟩⟩⟩⟩⟩⟩⟩⟩⟩⟩⟩
set_option maxRecDepth 100000 in
theorem mt_MV_r48 : mt_Pmv (((9, 74), (1, [(8, 67)]))) := List.forall_mem_cons.mpr ⟨⟨⟨by decide, by decide +kernel⟩, mt_in 672 (by decide +kernel) rfl, by decide +kernel, ("HealBench$Search", mt_F8, 18), rfl, Or.inl ⟨mt_in 670 (by decide +kernel) rfl, mt_inS (q := (⟨"HealBench$Search", "findGoodStates", "()V"⟩, 18)) 35 (by decide +kernel)⟩⟩, fun _ h => absurd h List.not_mem_nil⟩
set_option maxRecDepth 100000 in
theorem mt_MV_r49 : mt_Pmv (((9, 80), (1, [(8, 68)]))) := List.forall_mem_cons.mpr ⟨⟨⟨by decide, by decide +kernel⟩, mt_in 677 (by decide +kernel) rfl, by decide +kernel, ("HealBench$Search", mt_F8, 18), rfl, Or.inl ⟨mt_in 675 (by decide +kernel) rfl, mt_inS (q := (⟨"HealBench$Search", "findVerdict", "()I"⟩, 18)) 36 (by decide +kernel)⟩⟩, fun _ h => absurd h List.not_mem_nil⟩
set_option maxRecDepth 100000 in
theorem mt_MV_r50 : mt_Pmv (((9, 92), (2, [(10, 47)]))) := List.forall_mem_cons.mpr ⟨⟨⟨by decide, by decide +kernel⟩, mt_in 567 (by decide +kernel) rfl, by decide +kernel, ("HealBench$View", mt_F10, 6), rfl, Or.inr (Or.inl ⟨"HealBench", mt_nin 667 (by decide +kernel) rfl, mt_inS (q := (⟨"HealBench$View", "load", "(I)V"⟩, 6)) 24 (by decide +kernel)⟩)⟩, fun _ h => absurd h List.not_mem_nil⟩
set_option maxRecDepth 100000 in
theorem mt_MV_r51 : mt_Pmv (((9, 96), (2, [(7, 58)]))) := List.forall_mem_cons.mpr ⟨⟨⟨by decide, by decide +kernel⟩, mt_in 627 (by decide +kernel) rfl, by decide +kernel, ("HealBench$Rules", mt_F7, 5), rfl, Or.inr (Or.inl ⟨"HealBench", mt_nin 668 (by decide +kernel) rfl, mt_inS (q := (⟨"HealBench$Rules", "findMoves", "(LHealBench$View;)V"⟩, 5)) 30 (by decide +kernel)⟩)⟩, fun _ h => absurd h List.not_mem_nil⟩
set_option maxRecDepth 100000 in
theorem mt_MV_r52 : mt_Pmv (((9, 117), (2, [(7, 61)]))) := List.forall_mem_cons.mpr ⟨⟨⟨by decide, by decide +kernel⟩, mt_in 644 (by decide +kernel) rfl, by decide +kernel, ("HealBench$Rules", mt_F7, 5), rfl, Or.inr (Or.inl ⟨"HealBench", mt_nin 674 (by decide +kernel) rfl, mt_inS (q := (⟨"HealBench$Rules", "meetAim", "(LHealBench$View;)Z"⟩, 5)) 32 (by decide +kernel)⟩)⟩, fun _ h => absurd h List.not_mem_nil⟩
set_option maxRecDepth 100000 in
theorem mt_MV_r53 : mt_Pmv (((9, 121), (1, [(8, 69)]))) := List.forall_mem_cons.mpr ⟨⟨⟨by decide, by decide +kernel⟩, mt_in 681 (by decide +kernel) rfl, by decide +kernel, ("HealBench$Search", mt_F8, 18), rfl, Or.inl ⟨mt_in 679 (by decide +kernel) rfl, mt_inS (q := (⟨"HealBench$Search", "findStepOutOfGood", "()Z"⟩, 18)) 37 (by decide +kernel)⟩⟩, fun _ h => absurd h List.not_mem_nil⟩
set_option maxRecDepth 100000 in
theorem mt_MV_r54 : mt_Pmv (((9, 125), (1, [(8, 72)]))) := List.forall_mem_cons.mpr ⟨⟨⟨by decide, by decide +kernel⟩, mt_in 694 (by decide +kernel) rfl, by decide +kernel, ("HealBench$Search", mt_F8, 18), rfl, Or.inl ⟨mt_in 692 (by decide +kernel) rfl, mt_inS (q := (⟨"HealBench$Search", "findStandstill", "()Z"⟩, 18)) 40 (by decide +kernel)⟩⟩, fun _ h => absurd h List.not_mem_nil⟩
set_option maxRecDepth 100000 in
theorem mt_MV_r55 : mt_Pmv (((9, 128), (1, [(8, 73)]))) := List.forall_mem_cons.mpr ⟨⟨⟨by decide, by decide +kernel⟩, mt_in 698 (by decide +kernel) rfl, by decide +kernel, ("HealBench$Search", mt_F8, 18), rfl, Or.inl ⟨mt_in 696 (by decide +kernel) rfl, mt_inS (q := (⟨"HealBench$Search", "measure", "()V"⟩, 18)) 41 (by decide +kernel)⟩⟩, fun _ h => absurd h List.not_mem_nil⟩
set_option maxRecDepth 100000 in
theorem mt_MV_r56 : mt_Pmv (((9, 131), (1, [(8, 76)]))) := List.forall_mem_cons.mpr ⟨⟨⟨by decide, by decide +kernel⟩, mt_in 713 (by decide +kernel) rfl, by decide +kernel, ("HealBench$Search", mt_F8, 18), rfl, Or.inl ⟨mt_in 711 (by decide +kernel) rfl, mt_inS (q := (⟨"HealBench$Search", "findEndlessRun", "()Z"⟩, 18)) 44 (by decide +kernel)⟩⟩, fun _ h => absurd h List.not_mem_nil⟩
set_option maxRecDepth 100000 in
theorem mt_MV_r57 : mt_Pmv (((9, 134), (3, [(8, 59)]))) := List.forall_mem_cons.mpr ⟨⟨⟨by decide, by decide +kernel⟩, mt_in 635 (by decide +kernel) rfl, by decide +kernel, ("HealBench$Search", mt_F8, 18), rfl, Or.inl ⟨mt_in 683 (by decide +kernel) rfl, mt_inS (q := (⟨"HealBench$Search", "allows", "(II)Z"⟩, 18)) 31 (by decide +kernel)⟩⟩, fun _ h => absurd h List.not_mem_nil⟩
set_option maxRecDepth 100000 in
theorem mt_MV_r58 : mt_Pmv (((9, 138), (3, [(8, 70)]))) := List.forall_mem_cons.mpr ⟨⟨⟨by decide, by decide +kernel⟩, mt_in 686 (by decide +kernel) rfl, by decide +kernel, ("HealBench$Search", mt_F8, 18), rfl, Or.inl ⟨mt_in 684 (by decide +kernel) rfl, mt_inS (q := (⟨"HealBench$Search", "after", "(II)I"⟩, 18)) 38 (by decide +kernel)⟩⟩, fun _ h => absurd h List.not_mem_nil⟩
set_option maxRecDepth 100000 in
theorem mt_MV_r59 : mt_Pmv (((9, 142), (2, [(8, 71)]))) := List.forall_mem_cons.mpr ⟨⟨⟨by decide, by decide +kernel⟩, mt_in 690 (by decide +kernel) rfl, by decide +kernel, ("HealBench$Search", mt_F8, 18), rfl, Or.inl ⟨mt_in 688 (by decide +kernel) rfl, mt_inS (q := (⟨"HealBench$Search", "addToRun", "(I)V"⟩, 18)) 39 (by decide +kernel)⟩⟩, fun _ h => absurd h List.not_mem_nil⟩
set_option maxRecDepth 100000 in
theorem mt_MV_r60 : mt_Pmv (((9, 148), (2, [(8, 74)]))) := List.forall_mem_cons.mpr ⟨⟨⟨by decide, by decide +kernel⟩, mt_in 702 (by decide +kernel) rfl, by decide +kernel, ("HealBench$Search", mt_F8, 18), rfl, Or.inl ⟨mt_in 700 (by decide +kernel) rfl, mt_inS (q := (⟨"HealBench$Search", "measureFrom", "(I)V"⟩, 18)) 42 (by decide +kernel)⟩⟩, fun _ h => absurd h List.not_mem_nil⟩
set_option maxRecDepth 100000 in
theorem mt_MV_r61 : mt_Pmv (((9, 157), (3, [(8, 75)]))) := List.forall_mem_cons.mpr ⟨⟨⟨by decide, by decide +kernel⟩, mt_in 707 (by decide +kernel) rfl, by decide +kernel, ("HealBench$Search", mt_F8, 18), rfl, Or.inl ⟨mt_in 705 (by decide +kernel) rfl, mt_inS (q := (⟨"HealBench$Search", "learn", "(II)V"⟩, 18)) 43 (by decide +kernel)⟩⟩, fun _ h => absurd h List.not_mem_nil⟩
set_option maxRecDepth 100000 in
theorem mt_MV_r62 : mt_Pmv (((9, 162), (2, [(8, 77)]))) := List.forall_mem_cons.mpr ⟨⟨⟨by decide, by decide +kernel⟩, mt_in 717 (by decide +kernel) rfl, by decide +kernel, ("HealBench$Search", mt_F8, 18), rfl, Or.inl ⟨mt_in 715 (by decide +kernel) rfl, mt_inS (q := (⟨"HealBench$Search", "endlessAfter", "(I)I"⟩, 18)) 45 (by decide +kernel)⟩⟩, fun _ h => absurd h List.not_mem_nil⟩
set_option maxRecDepth 100000 in
theorem mt_MV_r63 : mt_Pmv (((12, 31), (3, [(2, 44)]))) := List.forall_mem_cons.mpr ⟨⟨⟨by decide, by decide +kernel⟩, mt_in 555 (by decide +kernel) rfl, by decide +kernel, ("HealBench$Graph", mt_F2, 6), rfl, Or.inr (Or.inl ⟨"HealBench", mt_nin 569 (by decide +kernel) rfl, mt_inS (q := (⟨"HealBench$Graph", "digit", "(II)I"⟩, 6)) 23 (by decide +kernel)⟩)⟩, fun _ h => absurd h List.not_mem_nil⟩
set_option maxRecDepth 100000 in
theorem mt_MV_r64 : mt_Pmv (((12, 50), (3, [(2, 14)]))) := List.forall_mem_cons.mpr ⟨⟨⟨by decide, by decide +kernel⟩, mt_in 273 (by decide +kernel) rfl, by decide +kernel, ("HealBench$Graph", mt_F2, 6), rfl, Or.inr (Or.inl ⟨"HealBench", mt_nin 580 (by decide +kernel) rfl, mt_inS (q := (⟨"HealBench$Graph", "linked", "(II)Z"⟩, 6)) 6 (by decide +kernel)⟩)⟩, fun _ h => absurd h List.not_mem_nil⟩
set_option maxRecDepth 100000 in
theorem mt_MV_r65 : mt_Pmv (((13, 13), (3, [(0, 7)]))) := List.forall_mem_cons.mpr ⟨⟨⟨by decide, by decide +kernel⟩, mt_in 243 (by decide +kernel) rfl, by decide +kernel, ("HealBench", mt_F0, 9), rfl, Or.inl ⟨mt_in 242 (by decide +kernel) rfl, mt_in 244 (by decide +kernel) rfl⟩⟩, fun _ h => absurd h List.not_mem_nil⟩
set_option maxRecDepth 100000 in
theorem mt_MV_r66 : mt_Pmv (((13, 17), (3, [(11, 83)]))) := List.forall_mem_cons.mpr ⟨⟨⟨by decide, by decide +kernel⟩, mt_in 863 (by decide +kernel) rfl, by decide +kernel, ("HealBenchModel", mt_F11, 40), rfl, Or.inl ⟨mt_in 862 (by decide +kernel) rfl, mt_in 864 (by decide +kernel) rfl⟩⟩, fun _ h => absurd h List.not_mem_nil⟩
set_option maxRecDepth 100000 in
theorem mt_MV_r67 : mt_Pmv (((13, 18), (3, [(0, 12)]))) := List.forall_mem_cons.mpr ⟨⟨⟨by decide, by decide +kernel⟩, mt_in 264 (by decide +kernel) rfl, by decide +kernel, ("HealBench", mt_F0, 9), rfl, Or.inl ⟨mt_in 263 (by decide +kernel) rfl, mt_in 265 (by decide +kernel) rfl⟩⟩, fun _ h => absurd h List.not_mem_nil⟩
set_option maxRecDepth 100000 in
theorem mt_MV_r68 : mt_Pmv (((13, 21), (3, [(11, 86)]))) := List.forall_mem_cons.mpr ⟨⟨⟨by decide, by decide +kernel⟩, mt_in 874 (by decide +kernel) rfl, by decide +kernel, ("HealBenchModel", mt_F11, 40), rfl, Or.inl ⟨mt_in 873 (by decide +kernel) rfl, mt_in 875 (by decide +kernel) rfl⟩⟩, fun _ h => absurd h List.not_mem_nil⟩
set_option maxRecDepth 100000 in
theorem mt_MV_r69 : mt_Pmv (((13, 22), (2, [(0, 16)]))) := List.forall_mem_cons.mpr ⟨⟨⟨by decide, by decide +kernel⟩, mt_in 280 (by decide +kernel) rfl, by decide +kernel, ("HealBench", mt_F0, 9), rfl, Or.inl ⟨mt_in 279 (by decide +kernel) rfl, mt_in 281 (by decide +kernel) rfl⟩⟩, fun _ h => absurd h List.not_mem_nil⟩
set_option maxRecDepth 100000 in
theorem mt_MV_r70 : mt_Pmv (((13, 26), (2, [(11, 88)]))) := List.forall_mem_cons.mpr ⟨⟨⟨by decide, by decide +kernel⟩, mt_in 882 (by decide +kernel) rfl, by decide +kernel, ("HealBenchModel", mt_F11, 40), rfl, Or.inl ⟨mt_in 881 (by decide +kernel) rfl, mt_in 883 (by decide +kernel) rfl⟩⟩, fun _ h => absurd h List.not_mem_nil⟩
set_option maxRecDepth 100000 in
theorem mt_MV_r71 : mt_Pmv (((13, 27), (1, [(0, 17)]))) := List.forall_mem_cons.mpr ⟨⟨⟨by decide, by decide +kernel⟩, mt_in 284 (by decide +kernel) rfl, by decide +kernel, ("HealBench", mt_F0, 9), rfl, Or.inl ⟨mt_in 283 (by decide +kernel) rfl, mt_in 285 (by decide +kernel) rfl⟩⟩, fun _ h => absurd h List.not_mem_nil⟩
def mt_MV_2 : List ((Nat × Nat) × (Nat × List (Nat × Nat))) := [((9, 74), (1, [(8, 67)])), ((9, 80), (1, [(8, 68)])), ((9, 92), (2, [(10, 47)])), ((9, 96), (2, [(7, 58)])), ((9, 117), (2, [(7, 61)])), ((9, 121), (1, [(8, 69)])), ((9, 125), (1, [(8, 72)])), ((9, 128), (1, [(8, 73)])), ((9, 131), (1, [(8, 76)])), ((9, 134), (3, [(8, 59)])), ((9, 138), (3, [(8, 70)])), ((9, 142), (2, [(8, 71)])), ((9, 148), (2, [(8, 74)])), ((9, 157), (3, [(8, 75)])), ((9, 162), (2, [(8, 77)])), ((12, 31), (3, [(2, 44)])), ((12, 50), (3, [(2, 14)])), ((13, 13), (3, [(0, 7)])), ((13, 17), (3, [(11, 83)])), ((13, 18), (3, [(0, 12)])), ((13, 21), (3, [(11, 86)])), ((13, 22), (2, [(0, 16)])), ((13, 26), (2, [(11, 88)])), ((13, 27), (1, [(0, 17)]))]
theorem mt_MV_a2 : ∀ e ∈ mt_MV_2, mt_Pmv e := List.forall_mem_cons.mpr ⟨mt_MV_r48, List.forall_mem_cons.mpr ⟨mt_MV_r49, List.forall_mem_cons.mpr ⟨mt_MV_r50, List.forall_mem_cons.mpr ⟨mt_MV_r51, List.forall_mem_cons.mpr ⟨mt_MV_r52, List.forall_mem_cons.mpr ⟨mt_MV_r53, List.forall_mem_cons.mpr ⟨mt_MV_r54, List.forall_mem_cons.mpr ⟨mt_MV_r55, List.forall_mem_cons.mpr ⟨mt_MV_r56, List.forall_mem_cons.mpr ⟨mt_MV_r57, List.forall_mem_cons.mpr ⟨mt_MV_r58, List.forall_mem_cons.mpr ⟨mt_MV_r59, List.forall_mem_cons.mpr ⟨mt_MV_r60, List.forall_mem_cons.mpr ⟨mt_MV_r61, List.forall_mem_cons.mpr ⟨mt_MV_r62, List.forall_mem_cons.mpr ⟨mt_MV_r63, List.forall_mem_cons.mpr ⟨mt_MV_r64, List.forall_mem_cons.mpr ⟨mt_MV_r65, List.forall_mem_cons.mpr ⟨mt_MV_r66, List.forall_mem_cons.mpr ⟨mt_MV_r67, List.forall_mem_cons.mpr ⟨mt_MV_r68, List.forall_mem_cons.mpr ⟨mt_MV_r69, List.forall_mem_cons.mpr ⟨mt_MV_r70, List.forall_mem_cons.mpr ⟨mt_MV_r71, fun _ h => absurd h List.not_mem_nil⟩⟩⟩⟩⟩⟩⟩⟩⟩⟩⟩⟩⟩⟩⟩⟩⟩⟩⟩⟩⟩⟩⟩⟩
set_option maxRecDepth 100000 in
theorem mt_MV_r72 : mt_Pmv (((13, 31), (1, [(11, 89)]))) := List.forall_mem_cons.mpr ⟨⟨⟨by decide, by decide +kernel⟩, mt_in 886 (by decide +kernel) rfl, by decide +kernel, ("HealBenchModel", mt_F11, 40), rfl, Or.inl ⟨mt_in 885 (by decide +kernel) rfl, mt_in 887 (by decide +kernel) rfl⟩⟩, fun _ h => absurd h List.not_mem_nil⟩
set_option maxRecDepth 100000 in
theorem mt_MV_r73 : mt_Pmv (((13, 32), (1, [(0, 38)]))) := List.forall_mem_cons.mpr ⟨⟨⟨by decide, by decide +kernel⟩, mt_in 529 (by decide +kernel) rfl, by decide +kernel, ("HealBench", mt_F0, 9), rfl, Or.inl ⟨mt_in 528 (by decide +kernel) rfl, mt_in 530 (by decide +kernel) rfl⟩⟩, fun _ h => absurd h List.not_mem_nil⟩
set_option maxRecDepth 100000 in
theorem mt_MV_r74 : mt_Pmv (((13, 35), (1, [(11, 101)]))) := List.forall_mem_cons.mpr ⟨⟨⟨by decide, by decide +kernel⟩, mt_in 934 (by decide +kernel) rfl, by decide +kernel, ("HealBenchModel", mt_F11, 40), rfl, Or.inl ⟨mt_in 933 (by decide +kernel) rfl, mt_in 935 (by decide +kernel) rfl⟩⟩, fun _ h => absurd h List.not_mem_nil⟩
set_option maxRecDepth 100000 in
theorem mt_MV_r75 : mt_Pmv (((13, 36), (2, [(0, 40)]))) := List.forall_mem_cons.mpr ⟨⟨⟨by decide, by decide +kernel⟩, mt_in 537 (by decide +kernel) rfl, by decide +kernel, ("HealBench", mt_F0, 9), rfl, Or.inl ⟨mt_in 536 (by decide +kernel) rfl, mt_in 538 (by decide +kernel) rfl⟩⟩, fun _ h => absurd h List.not_mem_nil⟩
set_option maxRecDepth 100000 in
theorem mt_MV_r76 : mt_Pmv (((13, 39), (2, [(11, 102)]))) := List.forall_mem_cons.mpr ⟨⟨⟨by decide, by decide +kernel⟩, mt_in 938 (by decide +kernel) rfl, by decide +kernel, ("HealBenchModel", mt_F11, 40), rfl, Or.inl ⟨mt_in 937 (by decide +kernel) rfl, mt_in 939 (by decide +kernel) rfl⟩⟩, fun _ h => absurd h List.not_mem_nil⟩
set_option maxRecDepth 100000 in
theorem mt_MV_r77 : mt_Pmv (((13, 40), (2, [(0, 42)]))) := List.forall_mem_cons.mpr ⟨⟨⟨by decide, by decide +kernel⟩, mt_in 546 (by decide +kernel) rfl, by decide +kernel, ("HealBench", mt_F0, 9), rfl, Or.inl ⟨mt_in 545 (by decide +kernel) rfl, mt_in 547 (by decide +kernel) rfl⟩⟩, fun _ h => absurd h List.not_mem_nil⟩
set_option maxRecDepth 100000 in
theorem mt_MV_r78 : mt_Pmv (((13, 43), (2, [(11, 103)]))) := List.forall_mem_cons.mpr ⟨⟨⟨by decide, by decide +kernel⟩, mt_in 942 (by decide +kernel) rfl, by decide +kernel, ("HealBenchModel", mt_F11, 40), rfl, Or.inl ⟨mt_in 941 (by decide +kernel) rfl, mt_in 943 (by decide +kernel) rfl⟩⟩, fun _ h => absurd h List.not_mem_nil⟩
set_option maxRecDepth 100000 in
theorem mt_MV_r79 : mt_Pmv (((13, 44), (3, [(0, 43)]))) := List.forall_mem_cons.mpr ⟨⟨⟨by decide, by decide +kernel⟩, mt_in 550 (by decide +kernel) rfl, by decide +kernel, ("HealBench", mt_F0, 9), rfl, Or.inl ⟨mt_in 549 (by decide +kernel) rfl, mt_in 551 (by decide +kernel) rfl⟩⟩, fun _ h => absurd h List.not_mem_nil⟩
set_option maxRecDepth 100000 in
theorem mt_MV_r80 : mt_Pmv (((13, 47), (3, [(11, 131)]))) := List.forall_mem_cons.mpr ⟨⟨⟨by decide, by decide +kernel⟩, mt_in 1052 (by decide +kernel) rfl, by decide +kernel, ("HealBenchModel", mt_F11, 40), rfl, Or.inl ⟨mt_in 1051 (by decide +kernel) rfl, mt_in 1053 (by decide +kernel) rfl⟩⟩, fun _ h => absurd h List.not_mem_nil⟩
set_option maxRecDepth 100000 in
theorem mt_MV_r81 : mt_Pmv (((13, 48), (2, [(0, 45)]))) := List.forall_mem_cons.mpr ⟨⟨⟨by decide, by decide +kernel⟩, mt_in 558 (by decide +kernel) rfl, by decide +kernel, ("HealBench", mt_F0, 9), rfl, Or.inl ⟨mt_in 557 (by decide +kernel) rfl, mt_in 559 (by decide +kernel) rfl⟩⟩, fun _ h => absurd h List.not_mem_nil⟩
set_option maxRecDepth 100000 in
theorem mt_MV_r82 : mt_Pmv (((13, 51), (2, [(11, 132)]))) := List.forall_mem_cons.mpr ⟨⟨⟨by decide, by decide +kernel⟩, mt_in 1056 (by decide +kernel) rfl, by decide +kernel, ("HealBenchModel", mt_F11, 40), rfl, Or.inl ⟨mt_in 1055 (by decide +kernel) rfl, mt_in 1057 (by decide +kernel) rfl⟩⟩, fun _ h => absurd h List.not_mem_nil⟩
set_option maxRecDepth 100000 in
theorem mt_MV_r83 : mt_Pmv (((13, 52), (2, [(0, 46)]))) := List.forall_mem_cons.mpr ⟨⟨⟨by decide, by decide +kernel⟩, mt_in 562 (by decide +kernel) rfl, by decide +kernel, ("HealBench", mt_F0, 9), rfl, Or.inl ⟨mt_in 561 (by decide +kernel) rfl, mt_in 563 (by decide +kernel) rfl⟩⟩, fun _ h => absurd h List.not_mem_nil⟩
set_option maxRecDepth 100000 in
theorem mt_MV_r84 : mt_Pmv (((13, 55), (2, [(11, 133)]))) := List.forall_mem_cons.mpr ⟨⟨⟨by decide, by decide +kernel⟩, mt_in 1060 (by decide +kernel) rfl, by decide +kernel, ("HealBenchModel", mt_F11, 40), rfl, Or.inl ⟨mt_in 1059 (by decide +kernel) rfl, mt_in 1061 (by decide +kernel) rfl⟩⟩, fun _ h => absurd h List.not_mem_nil⟩
set_option maxRecDepth 100000 in
theorem mt_MV_r85 : mt_Pmv (((13, 56), (2, [(0, 56)]))) := List.forall_mem_cons.mpr ⟨⟨⟨by decide, by decide +kernel⟩, mt_in 618 (by decide +kernel) rfl, by decide +kernel, ("HealBench", mt_F0, 9), rfl, Or.inl ⟨mt_in 617 (by decide +kernel) rfl, mt_in 619 (by decide +kernel) rfl⟩⟩, fun _ h => absurd h List.not_mem_nil⟩
set_option maxRecDepth 100000 in
theorem mt_MV_r86 : mt_Pmv (((13, 59), (2, [(11, 134)]))) := List.forall_mem_cons.mpr ⟨⟨⟨by decide, by decide +kernel⟩, mt_in 1065 (by decide +kernel) rfl, by decide +kernel, ("HealBenchModel", mt_F11, 40), rfl, Or.inl ⟨mt_in 1064 (by decide +kernel) rfl, mt_in 1066 (by decide +kernel) rfl⟩⟩, fun _ h => absurd h List.not_mem_nil⟩
set_option maxRecDepth 100000 in
theorem mt_MV_r87 : mt_Pmv (((13, 60), (1, [(0, 60)]))) := List.forall_mem_cons.mpr ⟨⟨⟨by decide, by decide +kernel⟩, mt_in 639 (by decide +kernel) rfl, by decide +kernel, ("HealBench", mt_F0, 9), rfl, Or.inl ⟨mt_in 638 (by decide +kernel) rfl, mt_in 640 (by decide +kernel) rfl⟩⟩, fun _ h => absurd h List.not_mem_nil⟩
set_option maxRecDepth 100000 in
theorem mt_MV_r88 : mt_Pmv (((13, 64), (1, [(11, 135)]))) := List.forall_mem_cons.mpr ⟨⟨⟨by decide, by decide +kernel⟩, mt_in 1069 (by decide +kernel) rfl, by decide +kernel, ("HealBenchModel", mt_F11, 40), rfl, Or.inl ⟨mt_in 1068 (by decide +kernel) rfl, mt_in 1070 (by decide +kernel) rfl⟩⟩, fun _ h => absurd h List.not_mem_nil⟩
set_option maxRecDepth 100000 in
theorem mt_MV_r89 : mt_Pmv (((13, 65), (1, [(0, 62)]))) := List.forall_mem_cons.mpr ⟨⟨⟨by decide, by decide +kernel⟩, mt_in 648 (by decide +kernel) rfl, by decide +kernel, ("HealBench", mt_F0, 9), rfl, Or.inl ⟨mt_in 647 (by decide +kernel) rfl, mt_in 649 (by decide +kernel) rfl⟩⟩, fun _ h => absurd h List.not_mem_nil⟩
set_option maxRecDepth 100000 in
theorem mt_MV_r90 : mt_Pmv (((13, 68), (1, [(11, 130)]))) := List.forall_mem_cons.mpr ⟨⟨⟨by decide, by decide +kernel⟩, mt_in 1048 (by decide +kernel) rfl, by decide +kernel, ("HealBenchModel", mt_F11, 40), rfl, Or.inl ⟨mt_in 1047 (by decide +kernel) rfl, mt_in 1049 (by decide +kernel) rfl⟩⟩, fun _ h => absurd h List.not_mem_nil⟩
set_option maxRecDepth 100000 in
theorem mt_MV_r91 : mt_Pmv (((13, 69), (2, [(0, 63)]))) := List.forall_mem_cons.mpr ⟨⟨⟨by decide, by decide +kernel⟩, mt_in 652 (by decide +kernel) rfl, by decide +kernel, ("HealBench", mt_F0, 9), rfl, Or.inl ⟨mt_in 651 (by decide +kernel) rfl, mt_in 653 (by decide +kernel) rfl⟩⟩, fun _ h => absurd h List.not_mem_nil⟩
set_option maxRecDepth 100000 in
theorem mt_MV_r92 : mt_Pmv (((13, 72), (2, [(11, 136)]))) := List.forall_mem_cons.mpr ⟨⟨⟨by decide, by decide +kernel⟩, mt_in 1073 (by decide +kernel) rfl, by decide +kernel, ("HealBenchModel", mt_F11, 40), rfl, Or.inl ⟨mt_in 1072 (by decide +kernel) rfl, mt_in 1074 (by decide +kernel) rfl⟩⟩, fun _ h => absurd h List.not_mem_nil⟩
set_option maxRecDepth 100000 in
theorem mt_MV_r93 : mt_Pmv (((13, 73), (1, [(0, 64)]))) := List.forall_mem_cons.mpr ⟨⟨⟨by decide, by decide +kernel⟩, mt_in 656 (by decide +kernel) rfl, by decide +kernel, ("HealBench", mt_F0, 9), rfl, Or.inl ⟨mt_in 655 (by decide +kernel) rfl, mt_in 657 (by decide +kernel) rfl⟩⟩, fun _ h => absurd h List.not_mem_nil⟩
set_option maxRecDepth 100000 in
theorem mt_MV_r94 : mt_Pmv (((13, 76), (1, [(11, 104)]))) := List.forall_mem_cons.mpr ⟨⟨⟨by decide, by decide +kernel⟩, mt_in 946 (by decide +kernel) rfl, by decide +kernel, ("HealBenchModel", mt_F11, 40), rfl, Or.inl ⟨mt_in 945 (by decide +kernel) rfl, mt_in 947 (by decide +kernel) rfl⟩⟩, fun _ h => absurd h List.not_mem_nil⟩
set_option maxRecDepth 100000 in
theorem mt_MV_r95 : mt_Pmv (((13, 77), (1, [(0, 78)]))) := List.forall_mem_cons.mpr ⟨⟨⟨by decide, by decide +kernel⟩, mt_in 720 (by decide +kernel) rfl, by decide +kernel, ("HealBench", mt_F0, 9), rfl, Or.inl ⟨mt_in 719 (by decide +kernel) rfl, mt_in 721 (by decide +kernel) rfl⟩⟩, fun _ h => absurd h List.not_mem_nil⟩
def mt_MV_3 : List ((Nat × Nat) × (Nat × List (Nat × Nat))) := [((13, 31), (1, [(11, 89)])), ((13, 32), (1, [(0, 38)])), ((13, 35), (1, [(11, 101)])), ((13, 36), (2, [(0, 40)])), ((13, 39), (2, [(11, 102)])), ((13, 40), (2, [(0, 42)])), ((13, 43), (2, [(11, 103)])), ((13, 44), (3, [(0, 43)])), ((13, 47), (3, [(11, 131)])), ((13, 48), (2, [(0, 45)])), ((13, 51), (2, [(11, 132)])), ((13, 52), (2, [(0, 46)])), ((13, 55), (2, [(11, 133)])), ((13, 56), (2, [(0, 56)])), ((13, 59), (2, [(11, 134)])), ((13, 60), (1, [(0, 60)])), ((13, 64), (1, [(11, 135)])), ((13, 65), (1, [(0, 62)])), ((13, 68), (1, [(11, 130)])), ((13, 69), (2, [(0, 63)])), ((13, 72), (2, [(11, 136)])), ((13, 73), (1, [(0, 64)])), ((13, 76), (1, [(11, 104)])), ((13, 77), (1, [(0, 78)]))]
theorem mt_MV_a3 : ∀ e ∈ mt_MV_3, mt_Pmv e := List.forall_mem_cons.mpr ⟨mt_MV_r72, List.forall_mem_cons.mpr ⟨mt_MV_r73, List.forall_mem_cons.mpr ⟨mt_MV_r74, List.forall_mem_cons.mpr ⟨mt_MV_r75, List.forall_mem_cons.mpr ⟨mt_MV_r76, List.forall_mem_cons.mpr ⟨mt_MV_r77, List.forall_mem_cons.mpr ⟨mt_MV_r78, List.forall_mem_cons.mpr ⟨mt_MV_r79, List.forall_mem_cons.mpr ⟨mt_MV_r80, List.forall_mem_cons.mpr ⟨mt_MV_r81, List.forall_mem_cons.mpr ⟨mt_MV_r82, List.forall_mem_cons.mpr ⟨mt_MV_r83, List.forall_mem_cons.mpr ⟨mt_MV_r84, List.forall_mem_cons.mpr ⟨mt_MV_r85, List.forall_mem_cons.mpr ⟨mt_MV_r86, List.forall_mem_cons.mpr ⟨mt_MV_r87, List.forall_mem_cons.mpr ⟨mt_MV_r88, List.forall_mem_cons.mpr ⟨mt_MV_r89, List.forall_mem_cons.mpr ⟨mt_MV_r90, List.forall_mem_cons.mpr ⟨mt_MV_r91, List.forall_mem_cons.mpr ⟨mt_MV_r92, List.forall_mem_cons.mpr ⟨mt_MV_r93, List.forall_mem_cons.mpr ⟨mt_MV_r94, List.forall_mem_cons.mpr ⟨mt_MV_r95, fun _ h => absurd h List.not_mem_nil⟩⟩⟩⟩⟩⟩⟩⟩⟩⟩⟩⟩⟩⟩⟩⟩⟩⟩⟩⟩⟩⟩⟩⟩
set_option maxRecDepth 100000 in
theorem mt_MV_r96 : mt_Pmv (((13, 80), (1, [(11, 126)]))) := List.forall_mem_cons.mpr ⟨⟨⟨by decide, by decide +kernel⟩, mt_in 1032 (by decide +kernel) rfl, by decide +kernel, ("HealBenchModel", mt_F11, 40), rfl, Or.inl ⟨mt_in 1031 (by decide +kernel) rfl, mt_in 1033 (by decide +kernel) rfl⟩⟩, fun _ h => absurd h List.not_mem_nil⟩
set_option maxRecDepth 100000 in
theorem mt_MV_r97 : mt_Pmv (((13, 81), (2, [(0, 79)]))) := List.forall_mem_cons.mpr ⟨⟨⟨by decide, by decide +kernel⟩, mt_in 724 (by decide +kernel) rfl, by decide +kernel, ("HealBench", mt_F0, 9), rfl, Or.inl ⟨mt_in 723 (by decide +kernel) rfl, mt_in 725 (by decide +kernel) rfl⟩⟩, fun _ h => absurd h List.not_mem_nil⟩
set_option maxRecDepth 100000 in
theorem mt_MV_r98 : mt_Pmv (((13, 84), (2, [(11, 127)]))) := List.forall_mem_cons.mpr ⟨⟨⟨by decide, by decide +kernel⟩, mt_in 1036 (by decide +kernel) rfl, by decide +kernel, ("HealBenchModel", mt_F11, 40), rfl, Or.inl ⟨mt_in 1035 (by decide +kernel) rfl, mt_in 1037 (by decide +kernel) rfl⟩⟩, fun _ h => absurd h List.not_mem_nil⟩
set_option maxRecDepth 100000 in
theorem mt_MV_r99 : mt_Pmv (((13, 85), (2, [(0, 80)]))) := List.forall_mem_cons.mpr ⟨⟨⟨by decide, by decide +kernel⟩, mt_in 728 (by decide +kernel) rfl, by decide +kernel, ("HealBench", mt_F0, 9), rfl, Or.inl ⟨mt_in 727 (by decide +kernel) rfl, mt_in 729 (by decide +kernel) rfl⟩⟩, fun _ h => absurd h List.not_mem_nil⟩
set_option maxRecDepth 100000 in
theorem mt_MV_r100 : mt_Pmv (((13, 88), (2, [(11, 128)]))) := List.forall_mem_cons.mpr ⟨⟨⟨by decide, by decide +kernel⟩, mt_in 1040 (by decide +kernel) rfl, by decide +kernel, ("HealBenchModel", mt_F11, 40), rfl, Or.inl ⟨mt_in 1039 (by decide +kernel) rfl, mt_in 1041 (by decide +kernel) rfl⟩⟩, fun _ h => absurd h List.not_mem_nil⟩
set_option maxRecDepth 100000 in
theorem mt_MV_r101 : mt_Pmv (((13, 89), (1, [(0, 81)]))) := List.forall_mem_cons.mpr ⟨⟨⟨by decide, by decide +kernel⟩, mt_in 732 (by decide +kernel) rfl, by decide +kernel, ("HealBench", mt_F0, 9), rfl, Or.inl ⟨mt_in 731 (by decide +kernel) rfl, mt_in 733 (by decide +kernel) rfl⟩⟩, fun _ h => absurd h List.not_mem_nil⟩
set_option maxRecDepth 100000 in
theorem mt_MV_r102 : mt_Pmv (((13, 92), (1, [(11, 129)]))) := List.forall_mem_cons.mpr ⟨⟨⟨by decide, by decide +kernel⟩, mt_in 1044 (by decide +kernel) rfl, by decide +kernel, ("HealBenchModel", mt_F11, 40), rfl, Or.inl ⟨mt_in 1043 (by decide +kernel) rfl, mt_in 1045 (by decide +kernel) rfl⟩⟩, fun _ h => absurd h List.not_mem_nil⟩
set_option maxRecDepth 100000 in
theorem mt_MV_r103 : mt_Pmv (((14, 101), (1, [(11, 84)]))) := List.forall_mem_cons.mpr ⟨⟨⟨by decide, by decide +kernel⟩, mt_in 868 (by decide +kernel) rfl, by decide +kernel, ("HealBenchModel", mt_F11, 40), rfl, Or.inl ⟨mt_in 866 (by decide +kernel) rfl, mt_inS (q := (⟨"HealBenchModel", "states", "()I"⟩, 40)) 46 (by decide +kernel)⟩⟩, fun _ h => absurd h List.not_mem_nil⟩
set_option maxRecDepth 100000 in
theorem mt_MV_r104 : mt_Pmv (((14, 105), (2, [(11, 87)]))) := List.forall_mem_cons.mpr ⟨⟨⟨by decide, by decide +kernel⟩, mt_in 879 (by decide +kernel) rfl, by decide +kernel, ("HealBenchModel", mt_F11, 40), rfl, Or.inl ⟨mt_in 877 (by decide +kernel) rfl, mt_inS (q := (⟨"HealBenchModel", "isNode", "(I)Z"⟩, 40)) 47 (by decide +kernel)⟩⟩, fun _ h => absurd h List.not_mem_nil⟩
set_option maxRecDepth 100000 in
theorem mt_MV_r105 : mt_Pmv (((14, 127), (2, [(11, 93)]))) := List.forall_mem_cons.mpr ⟨⟨⟨by decide, by decide +kernel⟩, mt_in 903 (by decide +kernel) rfl, by decide +kernel, ("HealBenchModel", mt_F11, 40), rfl, Or.inl ⟨mt_in 901 (by decide +kernel) rfl, mt_inS (q := (⟨"HealBenchModel", "sign", "(I)V"⟩, 40)) 51 (by decide +kernel)⟩⟩, fun _ h => absurd h List.not_mem_nil⟩
set_option maxRecDepth 100000 in
theorem mt_MV_r106 : mt_Pmv (((14, 134), (1, [(11, 97)]))) := List.forall_mem_cons.mpr ⟨⟨⟨by decide, by decide +kernel⟩, mt_in 919 (by decide +kernel) rfl, by decide +kernel, ("HealBenchModel", mt_F11, 40), rfl, Or.inl ⟨mt_in 917 (by decide +kernel) rfl, mt_inS (q := (⟨"HealBenchModel", "endTest", "()V"⟩, 40)) 55 (by decide +kernel)⟩⟩, fun _ h => absurd h List.not_mem_nil⟩
set_option maxRecDepth 100000 in
theorem mt_MV_r107 : mt_Pmv (((14, 137), (2, [(11, 92)]))) := List.forall_mem_cons.mpr ⟨⟨⟨by decide, by decide +kernel⟩, mt_in 899 (by decide +kernel) rfl, by decide +kernel, ("HealBenchModel", mt_F11, 40), rfl, Or.inl ⟨mt_in 897 (by decide +kernel) rfl, mt_inS (q := (⟨"HealBenchModel", "isPart", "(I)Z"⟩, 40)) 50 (by decide +kernel)⟩⟩, fun _ h => absurd h List.not_mem_nil⟩
set_option maxRecDepth 100000 in
theorem mt_MV_r108 : mt_Pmv (((14, 143), (2, [(11, 94)]))) := List.forall_mem_cons.mpr ⟨⟨⟨by decide, by decide +kernel⟩, mt_in 907 (by decide +kernel) rfl, by decide +kernel, ("HealBenchModel", mt_F11, 40), rfl, Or.inl ⟨mt_in 905 (by decide +kernel) rfl, mt_inS (q := (⟨"HealBenchModel", "begins", "(I)Z"⟩, 40)) 52 (by decide +kernel)⟩⟩, fun _ h => absurd h List.not_mem_nil⟩
set_option maxRecDepth 100000 in
theorem mt_MV_r109 : mt_Pmv (((14, 145), (1, [(11, 99)]))) := List.forall_mem_cons.mpr ⟨⟨⟨by decide, by decide +kernel⟩, mt_in 927 (by decide +kernel) rfl, by decide +kernel, ("HealBenchModel", mt_F11, 40), rfl, Or.inl ⟨mt_in 925 (by decide +kernel) rfl, mt_inS (q := (⟨"HealBenchModel", "endBoth", "()V"⟩, 40)) 57 (by decide +kernel)⟩⟩, fun _ h => absurd h List.not_mem_nil⟩
set_option maxRecDepth 100000 in
theorem mt_MV_r110 : mt_Pmv (((14, 148), (1, [(11, 96)]))) := List.forall_mem_cons.mpr ⟨⟨⟨by decide, by decide +kernel⟩, mt_in 915 (by decide +kernel) rfl, by decide +kernel, ("HealBenchModel", mt_F11, 40), rfl, Or.inl ⟨mt_in 913 (by decide +kernel) rfl, mt_inS (q := (⟨"HealBenchModel", "endComparison", "()V"⟩, 40)) 54 (by decide +kernel)⟩⟩, fun _ h => absurd h List.not_mem_nil⟩
set_option maxRecDepth 100000 in
theorem mt_MV_r111 : mt_Pmv (((14, 151), (3, [(11, 98)]))) := List.forall_mem_cons.mpr ⟨⟨⟨by decide, by decide +kernel⟩, mt_in 923 (by decide +kernel) rfl, by decide +kernel, ("HealBenchModel", mt_F11, 40), rfl, Or.inl ⟨mt_in 921 (by decide +kernel) rfl, mt_inS (q := (⟨"HealBenchModel", "goOn", "(IZ)I"⟩, 40)) 56 (by decide +kernel)⟩⟩, fun _ h => absurd h List.not_mem_nil⟩
set_option maxRecDepth 100000 in
theorem mt_MV_r112 : mt_Pmv (((14, 155), (3, [(11, 91)]))) := List.forall_mem_cons.mpr ⟨⟨⟨by decide, by decide +kernel⟩, mt_in 895 (by decide +kernel) rfl, by decide +kernel, ("HealBenchModel", mt_F11, 40), rfl, Or.inl ⟨mt_in 893 (by decide +kernel) rfl, mt_inS (q := (⟨"HealBenchModel", "start", "(IZ)I"⟩, 40)) 49 (by decide +kernel)⟩⟩, fun _ h => absurd h List.not_mem_nil⟩
set_option maxRecDepth 100000 in
theorem mt_MV_r113 : mt_Pmv (((14, 158), (4, [(11, 95)]))) := List.forall_mem_cons.mpr ⟨⟨⟨by decide, by decide +kernel⟩, mt_in 911 (by decide +kernel) rfl, by decide +kernel, ("HealBenchModel", mt_F11, 40), rfl, Or.inl ⟨mt_in 909 (by decide +kernel) rfl, mt_inS (q := (⟨"HealBenchModel", "follow", "(IIZ)I"⟩, 40)) 53 (by decide +kernel)⟩⟩, fun _ h => absurd h List.not_mem_nil⟩
set_option maxRecDepth 100000 in
theorem mt_MV_r114 : mt_Pmv (((14, 162), (2, [(11, 90)]))) := List.forall_mem_cons.mpr ⟨⟨⟨by decide, by decide +kernel⟩, mt_in 891 (by decide +kernel) rfl, by decide +kernel, ("HealBenchModel", mt_F11, 40), rfl, Or.inl ⟨mt_in 889 (by decide +kernel) rfl, mt_inS (q := (⟨"HealBenchModel", "read", "(Z)I"⟩, 40)) 48 (by decide +kernel)⟩⟩, fun _ h => absurd h List.not_mem_nil⟩
set_option maxRecDepth 100000 in
theorem mt_MV_r115 : mt_Pmv (((14, 166), (2, [(11, 100)]))) := List.forall_mem_cons.mpr ⟨⟨⟨by decide, by decide +kernel⟩, mt_in 931 (by decide +kernel) rfl, by decide +kernel, ("HealBenchModel", mt_F11, 40), rfl, Or.inl ⟨mt_in 929 (by decide +kernel) rfl, mt_inS (q := (⟨"HealBenchModel", "keep", "(I)V"⟩, 40)) 58 (by decide +kernel)⟩⟩, fun _ h => absurd h List.not_mem_nil⟩
set_option maxRecDepth 100000 in
theorem mt_MV_r116 : mt_Pmv (((14, 172), (2, [(11, 116)]))) := List.forall_mem_cons.mpr ⟨⟨⟨by decide, by decide +kernel⟩, mt_in 993 (by decide +kernel) rfl, by decide +kernel, ("HealBenchModel", mt_F11, 40), rfl, Or.inl ⟨mt_in 991 (by decide +kernel) rfl, mt_inS (q := (⟨"HealBenchModel", "neighbours", "(I)I"⟩, 40)) 68 (by decide +kernel)⟩⟩, fun _ h => absurd h List.not_mem_nil⟩
set_option maxRecDepth 100000 in
theorem mt_MV_r117 : mt_Pmv (((14, 176), (3, [(11, 117)]))) := List.forall_mem_cons.mpr ⟨⟨⟨by decide, by decide +kernel⟩, mt_in 997 (by decide +kernel) rfl, by decide +kernel, ("HealBenchModel", mt_F11, 40), rfl, Or.inl ⟨mt_in 995 (by decide +kernel) rfl, mt_inS (q := (⟨"HealBenchModel", "extreme", "(IZ)I"⟩, 40)) 69 (by decide +kernel)⟩⟩, fun _ h => absurd h List.not_mem_nil⟩
set_option maxRecDepth 100000 in
theorem mt_MV_r118 : mt_Pmv (((14, 185), (2, [(11, 112)]))) := List.forall_mem_cons.mpr ⟨⟨⟨by decide, by decide +kernel⟩, mt_in 979 (by decide +kernel) rfl, by decide +kernel, ("HealBenchModel", mt_F11, 40), rfl, Or.inl ⟨mt_in 977 (by decide +kernel) rfl, mt_inS (q := (⟨"HealBenchModel", "modulo", "(I)I"⟩, 40)) 66 (by decide +kernel)⟩⟩, fun _ h => absurd h List.not_mem_nil⟩
set_option maxRecDepth 100000 in
theorem mt_MV_r119 : mt_Pmv (((14, 192), (4, [(11, 115)]))) := List.forall_mem_cons.mpr ⟨⟨⟨by decide, by decide +kernel⟩, mt_in 989 (by decide +kernel) rfl, by decide +kernel, ("HealBenchModel", mt_F11, 40), rfl, Or.inl ⟨mt_in 987 (by decide +kernel) rfl, mt_inS (q := (⟨"HealBenchModel", "part", "(III)I"⟩, 40)) 67 (by decide +kernel)⟩⟩, fun _ h => absurd h List.not_mem_nil⟩
def mt_MV_4 : List ((Nat × Nat) × (Nat × List (Nat × Nat))) := [((13, 80), (1, [(11, 126)])), ((13, 81), (2, [(0, 79)])), ((13, 84), (2, [(11, 127)])), ((13, 85), (2, [(0, 80)])), ((13, 88), (2, [(11, 128)])), ((13, 89), (1, [(0, 81)])), ((13, 92), (1, [(11, 129)])), ((14, 101), (1, [(11, 84)])), ((14, 105), (2, [(11, 87)])), ((14, 127), (2, [(11, 93)])), ((14, 134), (1, [(11, 97)])), ((14, 137), (2, [(11, 92)])), ((14, 143), (2, [(11, 94)])), ((14, 145), (1, [(11, 99)])), ((14, 148), (1, [(11, 96)])), ((14, 151), (3, [(11, 98)])), ((14, 155), (3, [(11, 91)])), ((14, 158), (4, [(11, 95)])), ((14, 162), (2, [(11, 90)])), ((14, 166), (2, [(11, 100)])), ((14, 172), (2, [(11, 116)])), ((14, 176), (3, [(11, 117)])), ((14, 185), (2, [(11, 112)])), ((14, 192), (4, [(11, 115)]))]
theorem mt_MV_a4 : ∀ e ∈ mt_MV_4, mt_Pmv e := List.forall_mem_cons.mpr ⟨mt_MV_r96, List.forall_mem_cons.mpr ⟨mt_MV_r97, List.forall_mem_cons.mpr ⟨mt_MV_r98, List.forall_mem_cons.mpr ⟨mt_MV_r99, List.forall_mem_cons.mpr ⟨mt_MV_r100, List.forall_mem_cons.mpr ⟨mt_MV_r101, List.forall_mem_cons.mpr ⟨mt_MV_r102, List.forall_mem_cons.mpr ⟨mt_MV_r103, List.forall_mem_cons.mpr ⟨mt_MV_r104, List.forall_mem_cons.mpr ⟨mt_MV_r105, List.forall_mem_cons.mpr ⟨mt_MV_r106, List.forall_mem_cons.mpr ⟨mt_MV_r107, List.forall_mem_cons.mpr ⟨mt_MV_r108, List.forall_mem_cons.mpr ⟨mt_MV_r109, List.forall_mem_cons.mpr ⟨mt_MV_r110, List.forall_mem_cons.mpr ⟨mt_MV_r111, List.forall_mem_cons.mpr ⟨mt_MV_r112, List.forall_mem_cons.mpr ⟨mt_MV_r113, List.forall_mem_cons.mpr ⟨mt_MV_r114, List.forall_mem_cons.mpr ⟨mt_MV_r115, List.forall_mem_cons.mpr ⟨mt_MV_r116, List.forall_mem_cons.mpr ⟨mt_MV_r117, List.forall_mem_cons.mpr ⟨mt_MV_r118, List.forall_mem_cons.mpr ⟨mt_MV_r119, fun _ h => absurd h List.not_mem_nil⟩⟩⟩⟩⟩⟩⟩⟩⟩⟩⟩⟩⟩⟩⟩⟩⟩⟩⟩⟩⟩⟩⟩⟩
set_option maxRecDepth 100000 in
theorem mt_MV_r120 : mt_Pmv (((14, 195), (4, [(11, 111)]))) := List.forall_mem_cons.mpr ⟨⟨⟨by decide, by decide +kernel⟩, mt_in 975 (by decide +kernel) rfl, by decide +kernel, ("HealBenchModel", mt_F11, 40), rfl, Or.inl ⟨mt_in 973 (by decide +kernel) rfl, mt_inS (q := (⟨"HealBenchModel", "work", "(III)V"⟩, 40)) 65 (by decide +kernel)⟩⟩, fun _ h => absurd h List.not_mem_nil⟩
set_option maxRecDepth 100000 in
theorem mt_MV_r121 : mt_Pmv (((14, 199), (5, [(11, 110)]))) := List.forall_mem_cons.mpr ⟨⟨⟨by decide, by decide +kernel⟩, mt_in 971 (by decide +kernel) rfl, by decide +kernel, ("HealBenchModel", mt_F11, 40), rfl, Or.inl ⟨mt_in 969 (by decide +kernel) rfl, mt_inS (q := (⟨"HealBenchModel", "around", "(IIII)I"⟩, 40)) 64 (by decide +kernel)⟩⟩, fun _ h => absurd h List.not_mem_nil⟩
set_option maxRecDepth 100000 in
theorem mt_MV_r122 : mt_Pmv (((14, 203), (3, [(11, 109)]))) := List.forall_mem_cons.mpr ⟨⟨⟨by decide, by decide +kernel⟩, mt_in 967 (by decide +kernel) rfl, by decide +kernel, ("HealBenchModel", mt_F11, 40), rfl, Or.inl ⟨mt_in 965 (by decide +kernel) rfl, mt_inS (q := (⟨"HealBenchModel", "holds", "(II)Z"⟩, 40)) 63 (by decide +kernel)⟩⟩, fun _ h => absurd h List.not_mem_nil⟩
set_option maxRecDepth 100000 in
theorem mt_MV_r123 : mt_Pmv (((14, 207), (2, [(11, 107)]))) := List.forall_mem_cons.mpr ⟨⟨⟨by decide, by decide +kernel⟩, mt_in 959 (by decide +kernel) rfl, by decide +kernel, ("HealBenchModel", mt_F11, 40), rfl, Or.inl ⟨mt_in 957 (by decide +kernel) rfl, mt_inS (q := (⟨"HealBenchModel", "lookAt", "(I)V"⟩, 40)) 61 (by decide +kernel)⟩⟩, fun _ h => absurd h List.not_mem_nil⟩
set_option maxRecDepth 100000 in
theorem mt_MV_r124 : mt_Pmv (((14, 210), (2, [(11, 108)]))) := List.forall_mem_cons.mpr ⟨⟨⟨by decide, by decide +kernel⟩, mt_in 963 (by decide +kernel) rfl, by decide +kernel, ("HealBenchModel", mt_F11, 40), rfl, Or.inl ⟨mt_in 961 (by decide +kernel) rfl, mt_inS (q := (⟨"HealBenchModel", "ruleFor", "(I)I"⟩, 40)) 62 (by decide +kernel)⟩⟩, fun _ h => absurd h List.not_mem_nil⟩
set_option maxRecDepth 100000 in
theorem mt_MV_r125 : mt_Pmv (((14, 213), (3, [(11, 118)]))) := List.forall_mem_cons.mpr ⟨⟨⟨by decide, by decide +kernel⟩, mt_in 1001 (by decide +kernel) rfl, by decide +kernel, ("HealBenchModel", mt_F11, 40), rfl, Or.inl ⟨mt_in 999 (by decide +kernel) rfl, mt_inS (q := (⟨"HealBenchModel", "sumFor", "(II)I"⟩, 40)) 70 (by decide +kernel)⟩⟩, fun _ h => absurd h List.not_mem_nil⟩
set_option maxRecDepth 100000 in
theorem mt_MV_r126 : mt_Pmv (((14, 216), (3, [(11, 121)]))) := List.forall_mem_cons.mpr ⟨⟨⟨by decide, by decide +kernel⟩, mt_in 1013 (by decide +kernel) rfl, by decide +kernel, ("HealBenchModel", mt_F11, 40), rfl, Or.inl ⟨mt_in 1011 (by decide +kernel) rfl, mt_inS (q := (⟨"HealBenchModel", "isChoice", "(II)Z"⟩, 40)) 73 (by decide +kernel)⟩⟩, fun _ h => absurd h List.not_mem_nil⟩
set_option maxRecDepth 100000 in
theorem mt_MV_r127 : mt_Pmv (((14, 219), (3, [(11, 122)]))) := List.forall_mem_cons.mpr ⟨⟨⟨by decide, by decide +kernel⟩, mt_in 1017 (by decide +kernel) rfl, by decide +kernel, ("HealBenchModel", mt_F11, 40), rfl, Or.inl ⟨mt_in 1015 (by decide +kernel) rfl, mt_inS (q := (⟨"HealBenchModel", "behind", "(II)I"⟩, 40)) 74 (by decide +kernel)⟩⟩, fun _ h => absurd h List.not_mem_nil⟩
set_option maxRecDepth 100000 in
theorem mt_MV_r128 : mt_Pmv (((14, 222), (4, [(11, 120)]))) := List.forall_mem_cons.mpr ⟨⟨⟨by decide, by decide +kernel⟩, mt_in 1009 (by decide +kernel) rfl, by decide +kernel, ("HealBenchModel", mt_F11, 40), rfl, Or.inl ⟨mt_in 1007 (by decide +kernel) rfl, mt_inS (q := (⟨"HealBenchModel", "choiceTo", "(IZZ)I"⟩, 40)) 72 (by decide +kernel)⟩⟩, fun _ h => absurd h List.not_mem_nil⟩
set_option maxRecDepth 100000 in
theorem mt_MV_r129 : mt_Pmv (((14, 229), (1, [(11, 106)]))) := List.forall_mem_cons.mpr ⟨⟨⟨by decide, by decide +kernel⟩, mt_in 955 (by decide +kernel) rfl, by decide +kernel, ("HealBenchModel", mt_F11, 40), rfl, Or.inl ⟨mt_in 953 (by decide +kernel) rfl, mt_inS (q := (⟨"HealBenchModel", "layTables", "()V"⟩, 40)) 60 (by decide +kernel)⟩⟩, fun _ h => absurd h List.not_mem_nil⟩
set_option maxRecDepth 100000 in
theorem mt_MV_r130 : mt_Pmv (((14, 232), (1, [(11, 119)]))) := List.forall_mem_cons.mpr ⟨⟨⟨by decide, by decide +kernel⟩, mt_in 1005 (by decide +kernel) rfl, by decide +kernel, ("HealBenchModel", mt_F11, 40), rfl, Or.inl ⟨mt_in 1003 (by decide +kernel) rfl, mt_inS (q := (⟨"HealBenchModel", "leavesGood", "()Z"⟩, 40)) 71 (by decide +kernel)⟩⟩, fun _ h => absurd h List.not_mem_nil⟩
set_option maxRecDepth 100000 in
theorem mt_MV_r131 : mt_Pmv (((14, 236), (1, [(11, 123)]))) := List.forall_mem_cons.mpr ⟨⟨⟨by decide, by decide +kernel⟩, mt_in 1021 (by decide +kernel) rfl, by decide +kernel, ("HealBenchModel", mt_F11, 40), rfl, Or.inl ⟨mt_in 1019 (by decide +kernel) rfl, mt_inS (q := (⟨"HealBenchModel", "isStuck", "()Z"⟩, 40)) 75 (by decide +kernel)⟩⟩, fun _ h => absurd h List.not_mem_nil⟩
set_option maxRecDepth 100000 in
theorem mt_MV_r132 : mt_Pmv (((14, 239), (1, [(11, 124)]))) := List.forall_mem_cons.mpr ⟨⟨⟨by decide, by decide +kernel⟩, mt_in 1025 (by decide +kernel) rfl, by decide +kernel, ("HealBenchModel", mt_F11, 40), rfl, Or.inl ⟨mt_in 1023 (by decide +kernel) rfl, mt_inS (q := (⟨"HealBenchModel", "goesRound", "()Z"⟩, 40)) 76 (by decide +kernel)⟩⟩, fun _ h => absurd h List.not_mem_nil⟩
set_option maxRecDepth 100000 in
theorem mt_MV_r133 : mt_Pmv (((14, 245), (1, [(11, 125)]))) := List.forall_mem_cons.mpr ⟨⟨⟨by decide, by decide +kernel⟩, mt_in 1029 (by decide +kernel) rfl, by decide +kernel, ("HealBenchModel", mt_F11, 40), rfl, Or.inl ⟨mt_in 1027 (by decide +kernel) rfl, mt_inS (q := (⟨"HealBenchModel", "layFars", "()V"⟩, 40)) 77 (by decide +kernel)⟩⟩, fun _ h => absurd h List.not_mem_nil⟩
set_option maxRecDepth 100000 in
theorem mt_MV_r134 : mt_Pmv (((14, 248), (1, [(11, 105)]))) := List.forall_mem_cons.mpr ⟨⟨⟨by decide, by decide +kernel⟩, mt_in 951 (by decide +kernel) rfl, by decide +kernel, ("HealBenchModel", mt_F11, 40), rfl, Or.inl ⟨mt_in 949 (by decide +kernel) rfl, mt_inS (q := (⟨"HealBenchModel", "findOut", "()V"⟩, 40)) 59 (by decide +kernel)⟩⟩, fun _ h => absurd h List.not_mem_nil⟩
set_option maxRecDepth 100000 in
theorem mt_MV_r135 : mt_Pmv (((14, 251), (1, [(11, 130)]))) := List.forall_mem_cons.mpr ⟨⟨⟨by decide, by decide +kernel⟩, mt_in 1048 (by decide +kernel) rfl, by decide +kernel, ("HealBenchModel", mt_F11, 40), rfl, Or.inl ⟨mt_in 1063 (by decide +kernel) rfl, mt_in 1049 (by decide +kernel) rfl⟩⟩, fun _ h => absurd h List.not_mem_nil⟩
def mt_MV_5 : List ((Nat × Nat) × (Nat × List (Nat × Nat))) := [((14, 195), (4, [(11, 111)])), ((14, 199), (5, [(11, 110)])), ((14, 203), (3, [(11, 109)])), ((14, 207), (2, [(11, 107)])), ((14, 210), (2, [(11, 108)])), ((14, 213), (3, [(11, 118)])), ((14, 216), (3, [(11, 121)])), ((14, 219), (3, [(11, 122)])), ((14, 222), (4, [(11, 120)])), ((14, 229), (1, [(11, 106)])), ((14, 232), (1, [(11, 119)])), ((14, 236), (1, [(11, 123)])), ((14, 239), (1, [(11, 124)])), ((14, 245), (1, [(11, 125)])), ((14, 248), (1, [(11, 105)])), ((14, 251), (1, [(11, 130)]))]
theorem mt_MV_a5 : ∀ e ∈ mt_MV_5, mt_Pmv e := List.forall_mem_cons.mpr ⟨mt_MV_r120, List.forall_mem_cons.mpr ⟨mt_MV_r121, List.forall_mem_cons.mpr ⟨mt_MV_r122, List.forall_mem_cons.mpr ⟨mt_MV_r123, List.forall_mem_cons.mpr ⟨mt_MV_r124, List.forall_mem_cons.mpr ⟨mt_MV_r125, List.forall_mem_cons.mpr ⟨mt_MV_r126, List.forall_mem_cons.mpr ⟨mt_MV_r127, List.forall_mem_cons.mpr ⟨mt_MV_r128, List.forall_mem_cons.mpr ⟨mt_MV_r129, List.forall_mem_cons.mpr ⟨mt_MV_r130, List.forall_mem_cons.mpr ⟨mt_MV_r131, List.forall_mem_cons.mpr ⟨mt_MV_r132, List.forall_mem_cons.mpr ⟨mt_MV_r133, List.forall_mem_cons.mpr ⟨mt_MV_r134, List.forall_mem_cons.mpr ⟨mt_MV_r135, fun _ h => absurd h List.not_mem_nil⟩⟩⟩⟩⟩⟩⟩⟩⟩⟩⟩⟩⟩⟩⟩⟩
def mt_MV : List ((Nat × Nat) × (Nat × List (Nat × Nat))) := mt_MV_0 ++ (mt_MV_1 ++ (mt_MV_2 ++ (mt_MV_3 ++ (mt_MV_4 ++ (mt_MV_5)))))
theorem mt_MV_all : ∀ e ∈ mt_MV, mt_Pmv e := by
  show ∀ e ∈ mt_MV_0 ++ (mt_MV_1 ++ (mt_MV_2 ++ (mt_MV_3 ++ (mt_MV_4 ++ (mt_MV_5))))), mt_Pmv e
  exact List.forall_mem_append.mpr ⟨mt_MV_a0, List.forall_mem_append.mpr ⟨mt_MV_a1, List.forall_mem_append.mpr ⟨mt_MV_a2, List.forall_mem_append.mpr ⟨mt_MV_a3, List.forall_mem_append.mpr ⟨mt_MV_a4, mt_MV_a5⟩⟩⟩⟩⟩
set_option maxRecDepth 100000 in
theorem mt_ML_r0 : mt_Pml (((7, 86), 142)) := ⟨⟨by decide, by decide +kernel⟩, mt_in 380 (by decide +kernel) rfl, by decide +kernel, Or.inl ⟨mt_in 379 (by decide +kernel) rfl, mt_in 381 (by decide +kernel) rfl⟩⟩
set_option maxRecDepth 100000 in
theorem mt_ML_r1 : mt_Pml (((17, 335), 146)) := ⟨⟨by decide, by decide +kernel⟩, mt_in 398 (by decide +kernel) rfl, by decide +kernel, Or.inl ⟨mt_in 397 (by decide +kernel) rfl, mt_in 399 (by decide +kernel) rfl⟩⟩
set_option maxRecDepth 100000 in
theorem mt_ML_r2 : mt_Pml (((17, 492), 144)) := ⟨⟨by decide, by decide +kernel⟩, mt_in 388 (by decide +kernel) rfl, by decide +kernel, Or.inl ⟨mt_in 387 (by decide +kernel) rfl, mt_in 389 (by decide +kernel) rfl⟩⟩
set_option maxRecDepth 100000 in
theorem mt_ML_r3 : mt_Pml (((17, 505), 145)) := ⟨⟨by decide, by decide +kernel⟩, mt_in 394 (by decide +kernel) rfl, by decide +kernel, Or.inl ⟨mt_in 393 (by decide +kernel) rfl, mt_in 395 (by decide +kernel) rfl⟩⟩
set_option maxRecDepth 100000 in
theorem mt_ML_r4 : mt_Pml (((17, 633), 143)) := ⟨⟨by decide, by decide +kernel⟩, mt_in 384 (by decide +kernel) rfl, by decide +kernel, Or.inl ⟨mt_in 383 (by decide +kernel) rfl, mt_in 385 (by decide +kernel) rfl⟩⟩
def mt_ML_0 : List ((Nat × Nat) × Nat) := [((7, 86), 142), ((17, 335), 146), ((17, 492), 144), ((17, 505), 145), ((17, 633), 143)]
theorem mt_ML_a0 : ∀ e ∈ mt_ML_0, mt_Pml e := List.forall_mem_cons.mpr ⟨mt_ML_r0, List.forall_mem_cons.mpr ⟨mt_ML_r1, List.forall_mem_cons.mpr ⟨mt_ML_r2, List.forall_mem_cons.mpr ⟨mt_ML_r3, List.forall_mem_cons.mpr ⟨mt_ML_r4, fun _ h => absurd h List.not_mem_nil⟩⟩⟩⟩⟩
def mt_ML : List ((Nat × Nat) × Nat) := mt_ML_0
theorem mt_ML_all : ∀ e ∈ mt_ML, mt_Pml e := by
  show ∀ e ∈ mt_ML_0, mt_Pml e
  exact mt_ML_a0
set_option maxRecDepth 100000 in
theorem mt_sub_r0 : mt_Pb ((1, 200)) := ⟨3, "HealBench$Test", ("HealBench$Comparison", mt_F1, 3), rfl, by decide, rfl, Or.inr (mt_nin 1076 (by decide +kernel) rfl)⟩
set_option maxRecDepth 100000 in
theorem mt_sub_r1 : mt_Pb ((3, 200)) := ⟨3, "HealBench$Test", ("HealBench$Neighbours", mt_F3, 2), rfl, by decide, rfl, Or.inr (mt_nin 1077 (by decide +kernel) rfl)⟩
set_option maxRecDepth 100000 in
theorem mt_sub_r2 : mt_Pb ((4, 200)) := ⟨3, "HealBench$Test", ("HealBench$Not", mt_F4, 1), rfl, by decide, rfl, Or.inr (mt_nin 1078 (by decide +kernel) rfl)⟩
set_option maxRecDepth 100000 in
theorem mt_sub_r3 : mt_Pb ((5, 200)) := ⟨3, "HealBench$Test", ("HealBench$Pair", mt_F5, 3), rfl, by decide, rfl, Or.inr (mt_nin 1079 (by decide +kernel) rfl)⟩
set_option maxRecDepth 100000 in
theorem mt_sub_r4 : mt_Pb ((9, 201)) := ⟨4, "HealBench$Sum", ("HealBench$Sum", mt_F9, 4), rfl, by decide, rfl, Or.inl rfl⟩
def mt_sub_0 : List (Nat × Nat) := [(1, 200), (3, 200), (4, 200), (5, 200), (9, 201)]
theorem mt_sub_a0 : ∀ e ∈ mt_sub_0, mt_Pb e := List.forall_mem_cons.mpr ⟨mt_sub_r0, List.forall_mem_cons.mpr ⟨mt_sub_r1, List.forall_mem_cons.mpr ⟨mt_sub_r2, List.forall_mem_cons.mpr ⟨mt_sub_r3, List.forall_mem_cons.mpr ⟨mt_sub_r4, fun _ h => absurd h List.not_mem_nil⟩⟩⟩⟩⟩
def mt_sub : List (Nat × Nat) := mt_sub_0
theorem mt_sub_all : ∀ e ∈ mt_sub, mt_Pb e := by
  show ∀ e ∈ mt_sub_0, mt_Pb e
  exact mt_sub_a0
theorem mt_cpyW : Cond.native arraycopyName ∈ mt_TB ∧ Cond.static arraycopyName ∈ mt_TB ∧ Cond.initialized "java/lang/System" ∈ mt_TB := ⟨mt_in 293 (by decide +kernel) rfl, mt_in 292 (by decide +kernel) rfl, mt_in 8 (by decide +kernel) rfl⟩
set_option maxRecDepth 100000 in
theorem mt_objW : Cond.instanceMethod Lib.objectInit ∈ mt_TB ∧ Cond.code Lib.objectInit ⟨#[0xb1]⟩ 1 none ∈ mt_TB := ⟨mt_in 29 (by decide +kernel) rfl, mt_in 30 rfl rfl⟩
theorem mt_c0 : mt_Pc 0 ("HealBench", mt_F0, 9) := ⟨by decide, rfl, by decide +kernel, by decide +kernel, mt_ins [222, 224, 226, 228, 230, 232, 234, 236, 238] (by decide +kernel) (by decide +kernel), by decide +kernel⟩
theorem mt_c1 : mt_Pc 1 ("HealBench$Comparison", mt_F1, 3) := ⟨by decide, rfl, by decide +kernel, by decide +kernel, mt_ins [495, 497, 499] (by decide +kernel) (by decide +kernel), by decide +kernel⟩
theorem mt_c2 : mt_Pc 2 ("HealBench$Graph", mt_F2, 6) := ⟨by decide, rfl, by decide +kernel, by decide +kernel, mt_ins [65, 67, 69, 71, 73, 75] (by decide +kernel) (by decide +kernel), by decide +kernel⟩
theorem mt_c3 : mt_Pc 3 ("HealBench$Neighbours", mt_F3, 2) := ⟨by decide, rfl, by decide +kernel, by decide +kernel, mt_ins [361, 363] (by decide +kernel) (by decide +kernel), by decide +kernel⟩
theorem mt_c4 : mt_Pc 4 ("HealBench$Not", mt_F4, 1) := ⟨by decide, rfl, by decide +kernel, by decide +kernel, mt_ins [341] (by decide +kernel) (by decide +kernel), by decide +kernel⟩
theorem mt_c5 : mt_Pc 5 ("HealBench$Pair", mt_F5, 3) := ⟨by decide, rfl, by decide +kernel, by decide +kernel, mt_ins [511, 513, 515] (by decide +kernel) (by decide +kernel), by decide +kernel⟩
theorem mt_c6 : mt_Pc 6 ("HealBench$Reader", mt_F6, 3) := ⟨by decide, rfl, by decide +kernel, by decide +kernel, mt_ins [304, 306, 308] (by decide +kernel) (by decide +kernel), by decide +kernel⟩
theorem mt_c7 : mt_Pc 7 ("HealBench$Rules", mt_F7, 5) := ⟨by decide, rfl, by decide +kernel, by decide +kernel, mt_ins [131, 133, 135, 137, 139] (by decide +kernel) (by decide +kernel), by decide +kernel⟩
theorem mt_c8 : mt_Pc 8 ("HealBench$Search", mt_F8, 18) := ⟨by decide, rfl, by decide +kernel, by decide +kernel, mt_ins [175, 177, 179, 181, 183, 185, 187, 189, 191, 193, 195, 197, 199, 201, 203, 205, 207, 209] (by decide +kernel) (by decide +kernel), by decide +kernel⟩
theorem mt_c9 : mt_Pc 9 ("HealBench$Sum", mt_F9, 4) := ⟨by decide, rfl, by decide +kernel, by decide +kernel, mt_ins [476, 478, 480, 482] (by decide +kernel) (by decide +kernel), by decide +kernel⟩
theorem mt_c10 : mt_Pc 10 ("HealBench$View", mt_F10, 6) := ⟨by decide, rfl, by decide +kernel, by decide +kernel, mt_ins [102, 104, 106, 108, 110, 112] (by decide +kernel) (by decide +kernel), by decide +kernel⟩
theorem mt_c11 : mt_Pc 11 ("HealBenchModel", mt_F11, 40) := ⟨by decide, rfl, by decide +kernel, by decide +kernel, mt_ins [781, 783, 785, 787, 789, 791, 793, 795, 797, 799, 801, 803, 805, 807, 809, 811, 813, 815, 817, 819, 821, 823, 825, 827, 829, 831, 833, 835, 837, 839, 841, 843, 845, 847, 849, 851, 853, 855, 857, 859] (by decide +kernel) (by decide +kernel), by decide +kernel⟩
theorem mt_ok_cl : ∀ (ci : Nat) (r : vw_C), mt_cl[ci]? = some r → mt_Pc ci r
  | 0, _, h => by cases h; exact mt_c0
  | 1, _, h => by cases h; exact mt_c1
  | 2, _, h => by cases h; exact mt_c2
  | 3, _, h => by cases h; exact mt_c3
  | 4, _, h => by cases h; exact mt_c4
  | 5, _, h => by cases h; exact mt_c5
  | 6, _, h => by cases h; exact mt_c6
  | 7, _, h => by cases h; exact mt_c7
  | 8, _, h => by cases h; exact mt_c8
  | 9, _, h => by cases h; exact mt_c9
  | 10, _, h => by cases h; exact mt_c10
  | 11, _, h => by cases h; exact mt_c11
  | n + 12, _, h => by simp [mt_cl] at h
theorem mt_ma0 : ∀ r ∈ [mt_T1, mt_T2, mt_T3, mt_T4, mt_T5, mt_T6, mt_T7, mt_T8, mt_T9, mt_T10, mt_T11, mt_T12, mt_T13, mt_T14, mt_T15, mt_T16, mt_T17, mt_T18, mt_T19, mt_T20, mt_T21, mt_T22, mt_T23, mt_T24], mt_Pm r := List.forall_mem_cons.mpr ⟨mt_m1, List.forall_mem_cons.mpr ⟨mt_m2, List.forall_mem_cons.mpr ⟨mt_m3, List.forall_mem_cons.mpr ⟨mt_m4, List.forall_mem_cons.mpr ⟨mt_m5, List.forall_mem_cons.mpr ⟨mt_m6, List.forall_mem_cons.mpr ⟨mt_m7, List.forall_mem_cons.mpr ⟨mt_m8, List.forall_mem_cons.mpr ⟨mt_m9, List.forall_mem_cons.mpr ⟨mt_m10, List.forall_mem_cons.mpr ⟨mt_m11, List.forall_mem_cons.mpr ⟨mt_m12, List.forall_mem_cons.mpr ⟨mt_m13, List.forall_mem_cons.mpr ⟨mt_m14, List.forall_mem_cons.mpr ⟨mt_m15, List.forall_mem_cons.mpr ⟨mt_m16, List.forall_mem_cons.mpr ⟨mt_m17, List.forall_mem_cons.mpr ⟨mt_m18, List.forall_mem_cons.mpr ⟨mt_m19, List.forall_mem_cons.mpr ⟨mt_m20, List.forall_mem_cons.mpr ⟨mt_m21, List.forall_mem_cons.mpr ⟨mt_m22, List.forall_mem_cons.mpr ⟨mt_m23, List.forall_mem_cons.mpr ⟨mt_m24, fun _ h => absurd h List.not_mem_nil⟩⟩⟩⟩⟩⟩⟩⟩⟩⟩⟩⟩⟩⟩⟩⟩⟩⟩⟩⟩⟩⟩⟩⟩
theorem mt_ma1 : ∀ r ∈ [mt_T25, mt_T26, mt_T27, mt_T28, mt_T29, mt_T30, mt_T31, mt_T32, mt_T33, mt_T34, mt_T35, mt_T36, mt_T37, mt_T38, mt_T39, mt_T40, mt_T41, mt_T42, mt_T43, mt_T44, mt_T45, mt_T46, mt_T47, mt_T48], mt_Pm r := List.forall_mem_cons.mpr ⟨mt_m25, List.forall_mem_cons.mpr ⟨mt_m26, List.forall_mem_cons.mpr ⟨mt_m27, List.forall_mem_cons.mpr ⟨mt_m28, List.forall_mem_cons.mpr ⟨mt_m29, List.forall_mem_cons.mpr ⟨mt_m30, List.forall_mem_cons.mpr ⟨mt_m31, List.forall_mem_cons.mpr ⟨mt_m32, List.forall_mem_cons.mpr ⟨mt_m33, List.forall_mem_cons.mpr ⟨mt_m34, List.forall_mem_cons.mpr ⟨mt_m35, List.forall_mem_cons.mpr ⟨mt_m36, List.forall_mem_cons.mpr ⟨mt_m37, List.forall_mem_cons.mpr ⟨mt_m38, List.forall_mem_cons.mpr ⟨mt_m39, List.forall_mem_cons.mpr ⟨mt_m40, List.forall_mem_cons.mpr ⟨mt_m41, List.forall_mem_cons.mpr ⟨mt_m42, List.forall_mem_cons.mpr ⟨mt_m43, List.forall_mem_cons.mpr ⟨mt_m44, List.forall_mem_cons.mpr ⟨mt_m45, List.forall_mem_cons.mpr ⟨mt_m46, List.forall_mem_cons.mpr ⟨mt_m47, List.forall_mem_cons.mpr ⟨mt_m48, fun _ h => absurd h List.not_mem_nil⟩⟩⟩⟩⟩⟩⟩⟩⟩⟩⟩⟩⟩⟩⟩⟩⟩⟩⟩⟩⟩⟩⟩⟩
theorem mt_ma2 : ∀ r ∈ [mt_T49, mt_T50, mt_T51, mt_T52, mt_T53, mt_T54, mt_T55, mt_T56, mt_T57, mt_T58, mt_T59, mt_T60, mt_T61, mt_T62, mt_T63, mt_T64, mt_T65, mt_T66, mt_T67, mt_T68, mt_T69, mt_T70, mt_T71, mt_T72], mt_Pm r := List.forall_mem_cons.mpr ⟨mt_m49, List.forall_mem_cons.mpr ⟨mt_m50, List.forall_mem_cons.mpr ⟨mt_m51, List.forall_mem_cons.mpr ⟨mt_m52, List.forall_mem_cons.mpr ⟨mt_m53, List.forall_mem_cons.mpr ⟨mt_m54, List.forall_mem_cons.mpr ⟨mt_m55, List.forall_mem_cons.mpr ⟨mt_m56, List.forall_mem_cons.mpr ⟨mt_m57, List.forall_mem_cons.mpr ⟨mt_m58, List.forall_mem_cons.mpr ⟨mt_m59, List.forall_mem_cons.mpr ⟨mt_m60, List.forall_mem_cons.mpr ⟨mt_m61, List.forall_mem_cons.mpr ⟨mt_m62, List.forall_mem_cons.mpr ⟨mt_m63, List.forall_mem_cons.mpr ⟨mt_m64, List.forall_mem_cons.mpr ⟨mt_m65, List.forall_mem_cons.mpr ⟨mt_m66, List.forall_mem_cons.mpr ⟨mt_m67, List.forall_mem_cons.mpr ⟨mt_m68, List.forall_mem_cons.mpr ⟨mt_m69, List.forall_mem_cons.mpr ⟨mt_m70, List.forall_mem_cons.mpr ⟨mt_m71, List.forall_mem_cons.mpr ⟨mt_m72, fun _ h => absurd h List.not_mem_nil⟩⟩⟩⟩⟩⟩⟩⟩⟩⟩⟩⟩⟩⟩⟩⟩⟩⟩⟩⟩⟩⟩⟩⟩
theorem mt_ma3 : ∀ r ∈ [mt_T73, mt_T74, mt_T75, mt_T76, mt_T77, mt_T78, mt_T79, mt_T80, mt_T81, mt_T82, mt_T83, mt_T84, mt_T85, mt_T86, mt_T87, mt_T88, mt_T89, mt_T90, mt_T91, mt_T92, mt_T93, mt_T94, mt_T95, mt_T96], mt_Pm r := List.forall_mem_cons.mpr ⟨mt_m73, List.forall_mem_cons.mpr ⟨mt_m74, List.forall_mem_cons.mpr ⟨mt_m75, List.forall_mem_cons.mpr ⟨mt_m76, List.forall_mem_cons.mpr ⟨mt_m77, List.forall_mem_cons.mpr ⟨mt_m78, List.forall_mem_cons.mpr ⟨mt_m79, List.forall_mem_cons.mpr ⟨mt_m80, List.forall_mem_cons.mpr ⟨mt_m81, List.forall_mem_cons.mpr ⟨mt_m82, List.forall_mem_cons.mpr ⟨mt_m83, List.forall_mem_cons.mpr ⟨mt_m84, List.forall_mem_cons.mpr ⟨mt_m85, List.forall_mem_cons.mpr ⟨mt_m86, List.forall_mem_cons.mpr ⟨mt_m87, List.forall_mem_cons.mpr ⟨mt_m88, List.forall_mem_cons.mpr ⟨mt_m89, List.forall_mem_cons.mpr ⟨mt_m90, List.forall_mem_cons.mpr ⟨mt_m91, List.forall_mem_cons.mpr ⟨mt_m92, List.forall_mem_cons.mpr ⟨mt_m93, List.forall_mem_cons.mpr ⟨mt_m94, List.forall_mem_cons.mpr ⟨mt_m95, List.forall_mem_cons.mpr ⟨mt_m96, fun _ h => absurd h List.not_mem_nil⟩⟩⟩⟩⟩⟩⟩⟩⟩⟩⟩⟩⟩⟩⟩⟩⟩⟩⟩⟩⟩⟩⟩⟩
theorem mt_ma4 : ∀ r ∈ [mt_T97, mt_T98, mt_T99, mt_T100, mt_T101, mt_T102, mt_T103, mt_T104, mt_T105, mt_T106, mt_T107, mt_T108, mt_T109, mt_T110, mt_T111, mt_T112, mt_T113, mt_T114, mt_T115, mt_T116, mt_T117, mt_T118, mt_T119, mt_T120], mt_Pm r := List.forall_mem_cons.mpr ⟨mt_m97, List.forall_mem_cons.mpr ⟨mt_m98, List.forall_mem_cons.mpr ⟨mt_m99, List.forall_mem_cons.mpr ⟨mt_m100, List.forall_mem_cons.mpr ⟨mt_m101, List.forall_mem_cons.mpr ⟨mt_m102, List.forall_mem_cons.mpr ⟨mt_m103, List.forall_mem_cons.mpr ⟨mt_m104, List.forall_mem_cons.mpr ⟨mt_m105, List.forall_mem_cons.mpr ⟨mt_m106, List.forall_mem_cons.mpr ⟨mt_m107, List.forall_mem_cons.mpr ⟨mt_m108, List.forall_mem_cons.mpr ⟨mt_m109, List.forall_mem_cons.mpr ⟨mt_m110, List.forall_mem_cons.mpr ⟨mt_m111, List.forall_mem_cons.mpr ⟨mt_m112, List.forall_mem_cons.mpr ⟨mt_m113, List.forall_mem_cons.mpr ⟨mt_m114, List.forall_mem_cons.mpr ⟨mt_m115, List.forall_mem_cons.mpr ⟨mt_m116, List.forall_mem_cons.mpr ⟨mt_m117, List.forall_mem_cons.mpr ⟨mt_m118, List.forall_mem_cons.mpr ⟨mt_m119, List.forall_mem_cons.mpr ⟨mt_m120, fun _ h => absurd h List.not_mem_nil⟩⟩⟩⟩⟩⟩⟩⟩⟩⟩⟩⟩⟩⟩⟩⟩⟩⟩⟩⟩⟩⟩⟩⟩
theorem mt_ma5 : ∀ r ∈ [mt_T121, mt_T122, mt_T123, mt_T124, mt_T125, mt_T126, mt_T127, mt_T128, mt_T129, mt_T130, mt_T131, mt_T132, mt_T133, mt_T134, mt_T135, mt_T136, mt_T137, mt_T138, mt_T139, mt_T140, mt_T141, mt_T142, mt_T143, mt_T144], mt_Pm r := List.forall_mem_cons.mpr ⟨mt_m121, List.forall_mem_cons.mpr ⟨mt_m122, List.forall_mem_cons.mpr ⟨mt_m123, List.forall_mem_cons.mpr ⟨mt_m124, List.forall_mem_cons.mpr ⟨mt_m125, List.forall_mem_cons.mpr ⟨mt_m126, List.forall_mem_cons.mpr ⟨mt_m127, List.forall_mem_cons.mpr ⟨mt_m128, List.forall_mem_cons.mpr ⟨mt_m129, List.forall_mem_cons.mpr ⟨mt_m130, List.forall_mem_cons.mpr ⟨mt_m131, List.forall_mem_cons.mpr ⟨mt_m132, List.forall_mem_cons.mpr ⟨mt_m133, List.forall_mem_cons.mpr ⟨mt_m134, List.forall_mem_cons.mpr ⟨mt_m135, List.forall_mem_cons.mpr ⟨mt_m136, List.forall_mem_cons.mpr ⟨mt_m137, List.forall_mem_cons.mpr ⟨mt_m138, List.forall_mem_cons.mpr ⟨mt_m139, List.forall_mem_cons.mpr ⟨mt_m140, List.forall_mem_cons.mpr ⟨mt_m141, List.forall_mem_cons.mpr ⟨mt_m142, List.forall_mem_cons.mpr ⟨mt_m143, List.forall_mem_cons.mpr ⟨mt_m144, fun _ h => absurd h List.not_mem_nil⟩⟩⟩⟩⟩⟩⟩⟩⟩⟩⟩⟩⟩⟩⟩⟩⟩⟩⟩⟩⟩⟩⟩⟩
theorem mt_ma6 : ∀ r ∈ [mt_T145, mt_T146, mt_T147, mt_T148, mt_T149], mt_Pm r := List.forall_mem_cons.mpr ⟨mt_m145, List.forall_mem_cons.mpr ⟨mt_m146, List.forall_mem_cons.mpr ⟨mt_m147, List.forall_mem_cons.mpr ⟨mt_m148, List.forall_mem_cons.mpr ⟨mt_m149, fun _ h => absurd h List.not_mem_nil⟩⟩⟩⟩⟩
theorem mt_m_all : ∀ r ∈ mt_T.drop 1, mt_Pm r := by
  show ∀ r ∈ [mt_T1, mt_T2, mt_T3, mt_T4, mt_T5, mt_T6, mt_T7, mt_T8, mt_T9, mt_T10, mt_T11, mt_T12, mt_T13, mt_T14, mt_T15, mt_T16, mt_T17, mt_T18, mt_T19, mt_T20, mt_T21, mt_T22, mt_T23, mt_T24] ++ ([mt_T25, mt_T26, mt_T27, mt_T28, mt_T29, mt_T30, mt_T31, mt_T32, mt_T33, mt_T34, mt_T35, mt_T36, mt_T37, mt_T38, mt_T39, mt_T40, mt_T41, mt_T42, mt_T43, mt_T44, mt_T45, mt_T46, mt_T47, mt_T48] ++ ([mt_T49, mt_T50, mt_T51, mt_T52, mt_T53, mt_T54, mt_T55, mt_T56, mt_T57, mt_T58, mt_T59, mt_T60, mt_T61, mt_T62, mt_T63, mt_T64, mt_T65, mt_T66, mt_T67, mt_T68, mt_T69, mt_T70, mt_T71, mt_T72] ++ ([mt_T73, mt_T74, mt_T75, mt_T76, mt_T77, mt_T78, mt_T79, mt_T80, mt_T81, mt_T82, mt_T83, mt_T84, mt_T85, mt_T86, mt_T87, mt_T88, mt_T89, mt_T90, mt_T91, mt_T92, mt_T93, mt_T94, mt_T95, mt_T96] ++ ([mt_T97, mt_T98, mt_T99, mt_T100, mt_T101, mt_T102, mt_T103, mt_T104, mt_T105, mt_T106, mt_T107, mt_T108, mt_T109, mt_T110, mt_T111, mt_T112, mt_T113, mt_T114, mt_T115, mt_T116, mt_T117, mt_T118, mt_T119, mt_T120] ++ ([mt_T121, mt_T122, mt_T123, mt_T124, mt_T125, mt_T126, mt_T127, mt_T128, mt_T129, mt_T130, mt_T131, mt_T132, mt_T133, mt_T134, mt_T135, mt_T136, mt_T137, mt_T138, mt_T139, mt_T140, mt_T141, mt_T142, mt_T143, mt_T144] ++ ([mt_T145, mt_T146, mt_T147, mt_T148, mt_T149])))))), mt_Pm r
  exact List.forall_mem_append.mpr ⟨mt_ma0, List.forall_mem_append.mpr ⟨mt_ma1, List.forall_mem_append.mpr ⟨mt_ma2, List.forall_mem_append.mpr ⟨mt_ma3, List.forall_mem_append.mpr ⟨mt_ma4, List.forall_mem_append.mpr ⟨mt_ma5, mt_ma6⟩⟩⟩⟩⟩⟩
theorem mt_ok_M (mj : Nat) (h : 0 < mj ∧ mj < mt_T.length) : plainFor (mt_y mj) = true ∧ Cond.code (mt_y mj) (mt_b mj) (mt_L mj) (mt_ret mj) ∈ mt_TB ∧ Cond.initialized (mt_y mj).cls ∈ mt_TB ∧ ((mt_y mj).cls ≠ "java/lang/invoke/MethodHandle" ∧ (mt_y mj).cls ≠ "java/lang/invoke/VarHandle") ∧ mt_n mj ≤ mt_L mj ∧ mt_L mj + 19 ≤ 64 := by
  have h1 : mt_row mj ∈ mt_T.drop 1 := by
    refine List.mem_of_getElem? (i := mj - 1) ?_
    rw [List.getElem?_drop, show 1 + (mj - 1) = mj by omega]
    simp [mt_row, List.getD, h.2]
  exact mt_m_all _ h1
def mj_get {α : Type} (l : List ((Nat × Nat) × α)) (o i : Nat) : Option α := (l.find? (fun x => x.1.1 == o && x.1.2 == i)).map (fun x => x.2)
theorem mj_get_mem {α : Type} {l : List ((Nat × Nat) × α)} {o i : Nat} {v : α} (h : mj_get l o i = some v) : ((o, i), v) ∈ l := by
  unfold mj_get at h
  cases hf : l.find? (fun x => x.1.1 == o && x.1.2 == i) with
  | none => rw [hf] at h; cases h
  | some x =>
    rw [hf] at h
    have h1 := List.mem_of_find?_eq_some hf
    have h2 := List.find?_some hf
    simp only [Bool.and_eq_true, beq_iff_eq] at h2
    obtain ⟨⟨a, b⟩, c⟩ := x
    simp only [Option.map_some, Option.some.injEq] at h
    obtain ⟨h2, h3⟩ := h2
    dsimp only at h2 h3 h
    subst h2 h3 h
    exact h1
theorem mt_ok_F (o i ci k : Nat) (h : mj_get mt_F o i = some (ci, k)) : mt_Pf ((o, i), (ci, k)) := mt_F_all _ (mj_get_mem h)
theorem mt_ok_P (o i ci k : Nat) (b : Bool) (h : mj_get mt_P o i = some (ci, k, b)) : mt_Pp ((o, i), (ci, k, b)) := mt_P_all _ (mj_get_mem h)
theorem mt_ok_LF0 (o i : Nat) (h : mj_get mt_LF o i = some 0) : Cond.fieldLink (mt_cn o) i "java/lang/String" "value" "[B" ∈ mt_TB := (mt_LF_all _ (mj_get_mem h)).1 rfl
theorem mt_ok_LF1 (o i : Nat) (h : mj_get mt_LF o i = some 1) : Cond.fieldLink (mt_cn o) i "java/lang/String" "coder" "B" ∈ mt_TB := (mt_LF_all _ (mj_get_mem h)).2 rfl
theorem mt_ok_S (o i : Nat) (v : Int32) (h : mj_get mt_S o i = some v) : mt_Ps ((o, i), v) := mt_S_all _ (mj_get_mem h)
theorem mt_ok_K (o i : Nat) (v : Value) (h : mj_get mt_K o i = some v) : mt_Pk ((o, i), v) := mt_K_all _ (mj_get_mem h)
theorem mt_ok_N (o i ci : Nat) (h : mj_get mt_N o i = some ci) : mt_Pn ((o, i), ci) := mt_N_all _ (mj_get_mem h)
theorem mt_ok_NA (o i kd : Nat) (h : mj_get mt_NA o i = some kd) : mt_Pa ((o, i), kd) := mt_NA_all _ (mj_get_mem h)
theorem mt_ok_MS (o i mj : Nat) (h : mj_get mt_MS o i = some mj) : mt_Pms ((o, i), mj) := mt_MS_all _ (mj_get_mem h)
theorem mt_ok_MI (o i mj : Nat) (h : mj_get mt_MI o i = some mj) : mt_Pmi ((o, i), mj) := mt_MI_all _ (mj_get_mem h)
theorem mt_ok_MV (o i k : Nat) (rows : List (Nat × Nat)) (h : mj_get mt_MV o i = some (k, rows)) : mt_Pmv ((o, i), (k, rows)) := mt_MV_all _ (mj_get_mem h)
theorem mt_ok_ML (o i mj : Nat) (h : mj_get mt_ML o i = some mj) : mt_Pml ((o, i), mj) := mt_ML_all _ (mj_get_mem h)
theorem mt_ok_sub (q : Nat × Nat) (h : q ∈ mt_sub) : mt_Pb q := mt_sub_all q h
theorem mt_on_all : ∀ r ∈ mt_T, mt_cn r.2.2.2.2.1 = r.1.cls := by decide +kernel
theorem mt_ok_on (mi : Nat) : mt_cn (mt_on mi) = (mt_y mi).cls := by
  by_cases h : mi < mt_T.length
  · have h1 : mt_row mi ∈ mt_T := by
      refine List.mem_of_getElem? (i := mi) ?_
      simp [mt_row, List.getD, h]
    exact mt_on_all _ h1
  · have h1 : mt_row mi = (⟨"", "", ""⟩, ⟨#[]⟩, 0, none, 0, 0) := by
      simp [mt_row, List.getD, h]
    show mt_cn (mt_row mi).2.2.2.2.1 = (mt_row mi).1.cls
    rw [h1]
    rfl
theorem mt_ok_in : ∀ (ci : Nat) (r : vw_C), mt_cl[ci]? = some r → Cond.instantiable r.1 r.2.2 ∈ mt_TB
  | 0, _, h => by cases h; exact mt_in 24 (by decide +kernel) rfl
  | 1, _, h => by cases h; exact mt_in 487 (by decide +kernel) rfl
  | 2, _, h => by cases h; exact mt_in 32 (by decide +kernel) rfl
  | 3, _, h => by cases h; exact mt_in 354 (by decide +kernel) rfl
  | 4, _, h => by cases h; exact mt_in 332 (by decide +kernel) rfl
  | 5, _, h => by cases h; exact mt_in 503 (by decide +kernel) rfl
  | 6, _, h => by cases h; exact mt_in 295 (by decide +kernel) rfl
  | 7, _, h => by cases h; exact mt_in 116 (by decide +kernel) rfl
  | 8, _, h => by cases h; exact mt_in 143 (by decide +kernel) rfl
  | 9, _, h => by cases h; exact mt_in 467 (by decide +kernel) rfl
  | 10, _, h => by cases h; exact mt_in 80 (by decide +kernel) rfl
  | 11, _, h => by cases h; exact mt_in 736 (by decide +kernel) rfl
  | n + 12, _, h => by simp [mt_cl] at h
