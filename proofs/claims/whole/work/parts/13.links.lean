/-! links: what each entry of a constant pool is, by the tables -/
theorem lkF_X0_9 : LkF RX0 9 0 0 := ⟨RX0, TX0, 8, rfl, by decide, Or.inl (in_g (List.mem_of_getElem? (i := 91) (by decide +kernel)) rfl)⟩
theorem lkF_X4_73 : LkF RX4 73 0 0 := ⟨RX0, TX0, 8, rfl, by decide, Or.inr ⟨"OutageScreen", in_n (List.mem_of_getElem? (i := 92) (by decide +kernel)) rfl⟩⟩
theorem lkF_X5_169 : LkF RX5 169 0 0 := ⟨RX0, TX0, 8, rfl, by decide, Or.inr ⟨"OutageScreen", in_n (List.mem_of_getElem? (i := 93) (by decide +kernel)) rfl⟩⟩
theorem lkF_X0_15 : LkF RX0 15 0 1 := ⟨RX0, TX0, 8, rfl, by decide, Or.inl (in_g (List.mem_of_getElem? (i := 94) (by decide +kernel)) rfl)⟩
theorem lkF_X4_60 : LkF RX4 60 0 1 := ⟨RX0, TX0, 8, rfl, by decide, Or.inr ⟨"OutageScreen", in_n (List.mem_of_getElem? (i := 95) (by decide +kernel)) rfl⟩⟩
theorem lkF_X5_113 : LkF RX5 113 0 1 := ⟨RX0, TX0, 8, rfl, by decide, Or.inr ⟨"OutageScreen", in_n (List.mem_of_getElem? (i := 96) (by decide +kernel)) rfl⟩⟩
theorem lkF_X0_18 : LkF RX0 18 0 2 := ⟨RX0, TX0, 8, rfl, by decide, Or.inl (in_g (List.mem_of_getElem? (i := 97) (by decide +kernel)) rfl)⟩
theorem lkF_X4_63 : LkF RX4 63 0 2 := ⟨RX0, TX0, 8, rfl, by decide, Or.inr ⟨"OutageScreen", in_n (List.mem_of_getElem? (i := 98) (by decide +kernel)) rfl⟩⟩
theorem lkF_X5_117 : LkF RX5 117 0 2 := ⟨RX0, TX0, 8, rfl, by decide, Or.inr ⟨"OutageScreen", in_n (List.mem_of_getElem? (i := 99) (by decide +kernel)) rfl⟩⟩
theorem lkF_X0_21 : LkF RX0 21 0 3 := ⟨RX0, TX0, 8, rfl, by decide, Or.inl (in_g (List.mem_of_getElem? (i := 100) (by decide +kernel)) rfl)⟩
theorem lkF_X5_120 : LkF RX5 120 0 3 := ⟨RX0, TX0, 8, rfl, by decide, Or.inr ⟨"OutageScreen", in_n (List.mem_of_getElem? (i := 101) (by decide +kernel)) rfl⟩⟩
theorem lkF_X4_80 : LkF RX4 80 0 3 := ⟨RX0, TX0, 8, rfl, by decide, Or.inr ⟨"OutageScreen", in_n (List.mem_of_getElem? (i := 102) (by decide +kernel)) rfl⟩⟩
theorem lkF_X0_24 : LkF RX0 24 0 4 := ⟨RX0, TX0, 8, rfl, by decide, Or.inl (in_g (List.mem_of_getElem? (i := 103) (by decide +kernel)) rfl)⟩
theorem lkF_X5_123 : LkF RX5 123 0 4 := ⟨RX0, TX0, 8, rfl, by decide, Or.inr ⟨"OutageScreen", in_n (List.mem_of_getElem? (i := 104) (by decide +kernel)) rfl⟩⟩
theorem lkF_X4_111 : LkF RX4 111 0 4 := ⟨RX0, TX0, 8, rfl, by decide, Or.inr ⟨"OutageScreen", in_n (List.mem_of_getElem? (i := 105) (by decide +kernel)) rfl⟩⟩
theorem lkF_X0_27 : LkF RX0 27 0 5 := ⟨RX0, TX0, 8, rfl, by decide, Or.inl (in_g (List.mem_of_getElem? (i := 106) (by decide +kernel)) rfl)⟩
theorem lkF_X4_54 : LkF RX4 54 0 5 := ⟨RX0, TX0, 8, rfl, by decide, Or.inr ⟨"OutageScreen", in_n (List.mem_of_getElem? (i := 107) (by decide +kernel)) rfl⟩⟩
theorem lkF_X5_126 : LkF RX5 126 0 5 := ⟨RX0, TX0, 8, rfl, by decide, Or.inr ⟨"OutageScreen", in_n (List.mem_of_getElem? (i := 108) (by decide +kernel)) rfl⟩⟩
theorem lkF_X0_31 : LkF RX0 31 0 6 := ⟨RX0, TX0, 8, rfl, by decide, Or.inl (in_g (List.mem_of_getElem? (i := 109) (by decide +kernel)) rfl)⟩
theorem lkP_X0_31 : LkP RX0 31 0 6 .int := ⟨RX0, TX0, 8, rfl, by decide, rfl, by decide +kernel, Or.inl (in_g (List.mem_of_getElem? (i := 109) (by decide +kernel)) rfl)⟩
theorem lkF_X4_70 : LkF RX4 70 0 6 := ⟨RX0, TX0, 8, rfl, by decide, Or.inr ⟨"OutageScreen", in_n (List.mem_of_getElem? (i := 110) (by decide +kernel)) rfl⟩⟩
theorem lkP_X4_70 : LkP RX4 70 0 6 .int := ⟨RX0, TX0, 8, rfl, by decide, rfl, by decide +kernel, Or.inr ⟨"OutageScreen", in_n (List.mem_of_getElem? (i := 110) (by decide +kernel)) rfl⟩⟩
theorem lkF_X5_291 : LkF RX5 291 0 6 := ⟨RX0, TX0, 8, rfl, by decide, Or.inr ⟨"OutageScreen", in_n (List.mem_of_getElem? (i := 111) (by decide +kernel)) rfl⟩⟩
theorem lkP_X5_291 : LkP RX5 291 0 6 .int := ⟨RX0, TX0, 8, rfl, by decide, rfl, by decide +kernel, Or.inr ⟨"OutageScreen", in_n (List.mem_of_getElem? (i := 111) (by decide +kernel)) rfl⟩⟩
theorem lkF_X4_49 : LkF RX4 49 0 7 := ⟨RX0, TX0, 8, rfl, by decide, Or.inr ⟨"OutageScreen", in_n (List.mem_of_getElem? (i := 112) (by decide +kernel)) rfl⟩⟩
theorem lkP_X4_49 : LkP RX4 49 0 7 .int := ⟨RX0, TX0, 8, rfl, by decide, rfl, by decide +kernel, Or.inr ⟨"OutageScreen", in_n (List.mem_of_getElem? (i := 112) (by decide +kernel)) rfl⟩⟩
theorem lkF_X0_35 : LkF RX0 35 0 7 := ⟨RX0, TX0, 8, rfl, by decide, Or.inl (in_g (List.mem_of_getElem? (i := 113) (by decide +kernel)) rfl)⟩
theorem lkP_X0_35 : LkP RX0 35 0 7 .int := ⟨RX0, TX0, 8, rfl, by decide, rfl, by decide +kernel, Or.inl (in_g (List.mem_of_getElem? (i := 113) (by decide +kernel)) rfl)⟩
theorem lkF_X5_231 : LkF RX5 231 0 7 := ⟨RX0, TX0, 8, rfl, by decide, Or.inr ⟨"OutageScreen", in_n (List.mem_of_getElem? (i := 114) (by decide +kernel)) rfl⟩⟩
theorem lkP_X5_231 : LkP RX5 231 0 7 .int := ⟨RX0, TX0, 8, rfl, by decide, rfl, by decide +kernel, Or.inr ⟨"OutageScreen", in_n (List.mem_of_getElem? (i := 114) (by decide +kernel)) rfl⟩⟩
theorem lkF_X1_11 : LkF RX1 11 1 0 := ⟨RX1, TX1, 3, rfl, by decide, Or.inl (in_g (List.mem_of_getElem? (i := 143) (by decide +kernel)) rfl)⟩
theorem lkF_X1_22 : LkF RX1 22 1 1 := ⟨RX1, TX1, 3, rfl, by decide, Or.inl (in_g (List.mem_of_getElem? (i := 144) (by decide +kernel)) rfl)⟩
theorem lkP_X1_22 : LkP RX1 22 1 1 .int := ⟨RX1, TX1, 3, rfl, by decide, rfl, by decide +kernel, Or.inl (in_g (List.mem_of_getElem? (i := 144) (by decide +kernel)) rfl)⟩
theorem lkF_X1_18 : LkF RX1 18 1 2 := ⟨RX1, TX1, 3, rfl, by decide, Or.inl (in_g (List.mem_of_getElem? (i := 145) (by decide +kernel)) rfl)⟩
theorem lkP_X1_18 : LkP RX1 18 1 2 .int := ⟨RX1, TX1, 3, rfl, by decide, rfl, by decide +kernel, Or.inl (in_g (List.mem_of_getElem? (i := 145) (by decide +kernel)) rfl)⟩
theorem lkF_X5_275 : LkF RX5 275 1 2 := ⟨RX1, TX1, 3, rfl, by decide, Or.inr ⟨"OutageScreen", in_n (List.mem_of_getElem? (i := 146) (by decide +kernel)) rfl⟩⟩
theorem lkP_X5_275 : LkP RX5 275 1 2 .int := ⟨RX1, TX1, 3, rfl, by decide, rfl, by decide +kernel, Or.inr ⟨"OutageScreen", in_n (List.mem_of_getElem? (i := 146) (by decide +kernel)) rfl⟩⟩
theorem lkF_X3_9 : LkF RX3 9 3 0 := ⟨RX3, TX3, 5, rfl, by decide, Or.inl (in_g (List.mem_of_getElem? (i := 160) (by decide +kernel)) rfl)⟩
theorem lkF_X3_15 : LkF RX3 15 3 1 := ⟨RX3, TX3, 5, rfl, by decide, Or.inl (in_g (List.mem_of_getElem? (i := 161) (by decide +kernel)) rfl)⟩
theorem lkF_X5_268 : LkF RX5 268 3 1 := ⟨RX3, TX3, 5, rfl, by decide, Or.inr ⟨"OutageScreen", in_n (List.mem_of_getElem? (i := 162) (by decide +kernel)) rfl⟩⟩
theorem lkF_X3_18 : LkF RX3 18 3 2 := ⟨RX3, TX3, 5, rfl, by decide, Or.inl (in_g (List.mem_of_getElem? (i := 163) (by decide +kernel)) rfl)⟩
theorem lkP_X3_18 : LkP RX3 18 3 2 .int := ⟨RX3, TX3, 5, rfl, by decide, rfl, by decide +kernel, Or.inl (in_g (List.mem_of_getElem? (i := 163) (by decide +kernel)) rfl)⟩
theorem lkF_X5_294 : LkF RX5 294 3 2 := ⟨RX3, TX3, 5, rfl, by decide, Or.inr ⟨"OutageScreen", in_n (List.mem_of_getElem? (i := 164) (by decide +kernel)) rfl⟩⟩
theorem lkP_X5_294 : LkP RX5 294 3 2 .int := ⟨RX3, TX3, 5, rfl, by decide, rfl, by decide +kernel, Or.inr ⟨"OutageScreen", in_n (List.mem_of_getElem? (i := 164) (by decide +kernel)) rfl⟩⟩
theorem lkF_X3_22 : LkF RX3 22 3 3 := ⟨RX3, TX3, 5, rfl, by decide, Or.inl (in_g (List.mem_of_getElem? (i := 165) (by decide +kernel)) rfl)⟩
theorem lkP_X3_22 : LkP RX3 22 3 3 .int := ⟨RX3, TX3, 5, rfl, by decide, rfl, by decide +kernel, Or.inl (in_g (List.mem_of_getElem? (i := 165) (by decide +kernel)) rfl)⟩
theorem lkF_X3_41 : LkF RX3 41 3 4 := ⟨RX3, TX3, 5, rfl, by decide, Or.inl (in_g (List.mem_of_getElem? (i := 166) (by decide +kernel)) rfl)⟩
theorem lkP_X3_41 : LkP RX3 41 3 4 .int := ⟨RX3, TX3, 5, rfl, by decide, rfl, by decide +kernel, Or.inl (in_g (List.mem_of_getElem? (i := 166) (by decide +kernel)) rfl)⟩
theorem lkF_X5_265 : LkF RX5 265 3 4 := ⟨RX3, TX3, 5, rfl, by decide, Or.inr ⟨"OutageScreen", in_n (List.mem_of_getElem? (i := 167) (by decide +kernel)) rfl⟩⟩
theorem lkP_X5_265 : LkP RX5 265 3 4 .int := ⟨RX3, TX3, 5, rfl, by decide, rfl, by decide +kernel, Or.inr ⟨"OutageScreen", in_n (List.mem_of_getElem? (i := 167) (by decide +kernel)) rfl⟩⟩
theorem lkF_X4_45 : LkF RX4 45 4 0 := ⟨RX4, TX4, 12, rfl, by decide, Or.inl (in_g (List.mem_of_getElem? (i := 187) (by decide +kernel)) rfl)⟩
theorem lkF_X4_9 : LkF RX4 9 4 1 := ⟨RX4, TX4, 12, rfl, by decide, Or.inl (in_g (List.mem_of_getElem? (i := 188) (by decide +kernel)) rfl)⟩
theorem lkF_X4_15 : LkF RX4 15 4 2 := ⟨RX4, TX4, 12, rfl, by decide, Or.inl (in_g (List.mem_of_getElem? (i := 189) (by decide +kernel)) rfl)⟩
theorem lkF_X5_161 : LkF RX5 161 4 2 := ⟨RX4, TX4, 12, rfl, by decide, Or.inr ⟨"OutageScreen", in_n (List.mem_of_getElem? (i := 190) (by decide +kernel)) rfl⟩⟩
theorem lkF_X4_21 : LkF RX4 21 4 3 := ⟨RX4, TX4, 12, rfl, by decide, Or.inl (in_g (List.mem_of_getElem? (i := 191) (by decide +kernel)) rfl)⟩
theorem lkF_X4_24 : LkF RX4 24 4 4 := ⟨RX4, TX4, 12, rfl, by decide, Or.inl (in_g (List.mem_of_getElem? (i := 192) (by decide +kernel)) rfl)⟩
theorem lkF_X5_155 : LkF RX5 155 4 4 := ⟨RX4, TX4, 12, rfl, by decide, Or.inr ⟨"OutageScreen", in_n (List.mem_of_getElem? (i := 193) (by decide +kernel)) rfl⟩⟩
theorem lkF_X4_28 : LkF RX4 28 4 5 := ⟨RX4, TX4, 12, rfl, by decide, Or.inl (in_g (List.mem_of_getElem? (i := 194) (by decide +kernel)) rfl)⟩
theorem lkF_X5_140 : LkF RX5 140 4 5 := ⟨RX4, TX4, 12, rfl, by decide, Or.inr ⟨"OutageScreen", in_n (List.mem_of_getElem? (i := 195) (by decide +kernel)) rfl⟩⟩
theorem lkF_X4_31 : LkF RX4 31 4 6 := ⟨RX4, TX4, 12, rfl, by decide, Or.inl (in_g (List.mem_of_getElem? (i := 196) (by decide +kernel)) rfl)⟩
theorem lkF_X5_158 : LkF RX5 158 4 6 := ⟨RX4, TX4, 12, rfl, by decide, Or.inr ⟨"OutageScreen", in_n (List.mem_of_getElem? (i := 197) (by decide +kernel)) rfl⟩⟩
theorem lkF_X4_34 : LkF RX4 34 4 7 := ⟨RX4, TX4, 12, rfl, by decide, Or.inl (in_g (List.mem_of_getElem? (i := 198) (by decide +kernel)) rfl)⟩
theorem lkP_X4_34 : LkP RX4 34 4 7 .long := ⟨RX4, TX4, 12, rfl, by decide, rfl, by decide +kernel, Or.inl (in_g (List.mem_of_getElem? (i := 198) (by decide +kernel)) rfl)⟩
theorem lkF_X5_144 : LkF RX5 144 4 7 := ⟨RX4, TX4, 12, rfl, by decide, Or.inr ⟨"OutageScreen", in_n (List.mem_of_getElem? (i := 199) (by decide +kernel)) rfl⟩⟩
theorem lkP_X5_144 : LkP RX5 144 4 7 .long := ⟨RX4, TX4, 12, rfl, by decide, rfl, by decide +kernel, Or.inr ⟨"OutageScreen", in_n (List.mem_of_getElem? (i := 199) (by decide +kernel)) rfl⟩⟩
theorem lkF_X4_38 : LkF RX4 38 4 8 := ⟨RX4, TX4, 12, rfl, by decide, Or.inl (in_g (List.mem_of_getElem? (i := 200) (by decide +kernel)) rfl)⟩
theorem lkP_X4_38 : LkP RX4 38 4 8 .int := ⟨RX4, TX4, 12, rfl, by decide, rfl, by decide +kernel, Or.inl (in_g (List.mem_of_getElem? (i := 200) (by decide +kernel)) rfl)⟩
theorem lkF_X5_181 : LkF RX5 181 4 8 := ⟨RX4, TX4, 12, rfl, by decide, Or.inr ⟨"OutageScreen", in_n (List.mem_of_getElem? (i := 201) (by decide +kernel)) rfl⟩⟩
theorem lkP_X5_181 : LkP RX5 181 4 8 .int := ⟨RX4, TX4, 12, rfl, by decide, rfl, by decide +kernel, Or.inr ⟨"OutageScreen", in_n (List.mem_of_getElem? (i := 201) (by decide +kernel)) rfl⟩⟩
theorem lkF_X4_99 : LkF RX4 99 4 9 := ⟨RX4, TX4, 12, rfl, by decide, Or.inl (in_g (List.mem_of_getElem? (i := 202) (by decide +kernel)) rfl)⟩
theorem lkP_X4_99 : LkP RX4 99 4 9 .long := ⟨RX4, TX4, 12, rfl, by decide, rfl, by decide +kernel, Or.inl (in_g (List.mem_of_getElem? (i := 202) (by decide +kernel)) rfl)⟩
theorem lkF_X5_185 : LkF RX5 185 4 9 := ⟨RX4, TX4, 12, rfl, by decide, Or.inr ⟨"OutageScreen", in_n (List.mem_of_getElem? (i := 203) (by decide +kernel)) rfl⟩⟩
theorem lkP_X5_185 : LkP RX5 185 4 9 .long := ⟨RX4, TX4, 12, rfl, by decide, rfl, by decide +kernel, Or.inr ⟨"OutageScreen", in_n (List.mem_of_getElem? (i := 203) (by decide +kernel)) rfl⟩⟩
theorem lkF_X4_42 : LkF RX4 42 4 10 := ⟨RX4, TX4, 12, rfl, by decide, Or.inl (in_g (List.mem_of_getElem? (i := 204) (by decide +kernel)) rfl)⟩
theorem lkP_X4_42 : LkP RX4 42 4 10 .long := ⟨RX4, TX4, 12, rfl, by decide, rfl, by decide +kernel, Or.inl (in_g (List.mem_of_getElem? (i := 204) (by decide +kernel)) rfl)⟩
theorem lkF_X5_188 : LkF RX5 188 4 10 := ⟨RX4, TX4, 12, rfl, by decide, Or.inr ⟨"OutageScreen", in_n (List.mem_of_getElem? (i := 205) (by decide +kernel)) rfl⟩⟩
theorem lkP_X5_188 : LkP RX5 188 4 10 .long := ⟨RX4, TX4, 12, rfl, by decide, rfl, by decide +kernel, Or.inr ⟨"OutageScreen", in_n (List.mem_of_getElem? (i := 205) (by decide +kernel)) rfl⟩⟩
theorem lkF_X4_102 : LkF RX4 102 4 11 := ⟨RX4, TX4, 12, rfl, by decide, Or.inl (in_g (List.mem_of_getElem? (i := 206) (by decide +kernel)) rfl)⟩
theorem lkP_X4_102 : LkP RX4 102 4 11 .int := ⟨RX4, TX4, 12, rfl, by decide, rfl, by decide +kernel, Or.inl (in_g (List.mem_of_getElem? (i := 206) (by decide +kernel)) rfl)⟩
theorem lkF_X5_191 : LkF RX5 191 4 11 := ⟨RX4, TX4, 12, rfl, by decide, Or.inr ⟨"OutageScreen", in_n (List.mem_of_getElem? (i := 207) (by decide +kernel)) rfl⟩⟩
theorem lkP_X5_191 : LkP RX5 191 4 11 .int := ⟨RX4, TX4, 12, rfl, by decide, rfl, by decide +kernel, Or.inr ⟨"OutageScreen", in_n (List.mem_of_getElem? (i := 207) (by decide +kernel)) rfl⟩⟩
theorem lkF_X2_9 : LkF RX2 9 2 0 := ⟨RX2, TX2, 5, rfl, by decide, Or.inl (in_g (List.mem_of_getElem? (i := 240) (by decide +kernel)) rfl)⟩
theorem lkF_X5_203 : LkF RX5 203 2 0 := ⟨RX2, TX2, 5, rfl, by decide, Or.inr ⟨"OutageScreen", in_n (List.mem_of_getElem? (i := 241) (by decide +kernel)) rfl⟩⟩
theorem lkF_X2_15 : LkF RX2 15 2 1 := ⟨RX2, TX2, 5, rfl, by decide, Or.inl (in_g (List.mem_of_getElem? (i := 242) (by decide +kernel)) rfl)⟩
theorem lkF_X5_211 : LkF RX5 211 2 1 := ⟨RX2, TX2, 5, rfl, by decide, Or.inr ⟨"OutageScreen", in_n (List.mem_of_getElem? (i := 243) (by decide +kernel)) rfl⟩⟩
theorem lkF_X2_18 : LkF RX2 18 2 2 := ⟨RX2, TX2, 5, rfl, by decide, Or.inl (in_g (List.mem_of_getElem? (i := 244) (by decide +kernel)) rfl)⟩
theorem lkF_X5_214 : LkF RX5 214 2 2 := ⟨RX2, TX2, 5, rfl, by decide, Or.inr ⟨"OutageScreen", in_n (List.mem_of_getElem? (i := 245) (by decide +kernel)) rfl⟩⟩
theorem lkF_X2_22 : LkF RX2 22 2 3 := ⟨RX2, TX2, 5, rfl, by decide, Or.inl (in_g (List.mem_of_getElem? (i := 246) (by decide +kernel)) rfl)⟩
theorem lkF_X5_217 : LkF RX5 217 2 3 := ⟨RX2, TX2, 5, rfl, by decide, Or.inr ⟨"OutageScreen", in_n (List.mem_of_getElem? (i := 247) (by decide +kernel)) rfl⟩⟩
theorem lkF_X2_25 : LkF RX2 25 2 4 := ⟨RX2, TX2, 5, rfl, by decide, Or.inl (in_g (List.mem_of_getElem? (i := 248) (by decide +kernel)) rfl)⟩
theorem lkP_X2_25 : LkP RX2 25 2 4 .int := ⟨RX2, TX2, 5, rfl, by decide, rfl, by decide +kernel, Or.inl (in_g (List.mem_of_getElem? (i := 248) (by decide +kernel)) rfl)⟩
theorem lkF_X5_322 : LkF RX5 322 2 4 := ⟨RX2, TX2, 5, rfl, by decide, Or.inr ⟨"OutageScreen", in_n (List.mem_of_getElem? (i := 249) (by decide +kernel)) rfl⟩⟩
theorem lkP_X5_322 : LkP RX5 322 2 4 .int := ⟨RX2, TX2, 5, rfl, by decide, rfl, by decide +kernel, Or.inr ⟨"OutageScreen", in_n (List.mem_of_getElem? (i := 249) (by decide +kernel)) rfl⟩⟩
theorem lkF_X5_10 : LkF RX5 10 5 0 := ⟨RX5, TX5, 8, rfl, by decide, Or.inl (in_g (List.mem_of_getElem? (i := 261) (by decide +kernel)) rfl)⟩
theorem lkF_X5_19 : LkF RX5 19 5 1 := ⟨RX5, TX5, 8, rfl, by decide, Or.inl (in_g (List.mem_of_getElem? (i := 262) (by decide +kernel)) rfl)⟩
theorem lkF_X5_26 : LkF RX5 26 5 2 := ⟨RX5, TX5, 8, rfl, by decide, Or.inl (in_g (List.mem_of_getElem? (i := 263) (by decide +kernel)) rfl)⟩
theorem lkF_X5_35 : LkF RX5 35 5 3 := ⟨RX5, TX5, 8, rfl, by decide, Or.inl (in_g (List.mem_of_getElem? (i := 264) (by decide +kernel)) rfl)⟩
theorem lkF_X5_42 : LkF RX5 42 5 4 := ⟨RX5, TX5, 8, rfl, by decide, Or.inl (in_g (List.mem_of_getElem? (i := 265) (by decide +kernel)) rfl)⟩
theorem lkF_X5_282 : LkF RX5 282 5 5 := ⟨RX5, TX5, 8, rfl, by decide, Or.inl (in_g (List.mem_of_getElem? (i := 266) (by decide +kernel)) rfl)⟩
theorem lkP_X5_282 : LkP RX5 282 5 5 .int := ⟨RX5, TX5, 8, rfl, by decide, rfl, by decide +kernel, Or.inl (in_g (List.mem_of_getElem? (i := 266) (by decide +kernel)) rfl)⟩
theorem lkF_X5_285 : LkF RX5 285 5 6 := ⟨RX5, TX5, 8, rfl, by decide, Or.inl (in_g (List.mem_of_getElem? (i := 267) (by decide +kernel)) rfl)⟩
theorem lkP_X5_285 : LkP RX5 285 5 6 .int := ⟨RX5, TX5, 8, rfl, by decide, rfl, by decide +kernel, Or.inl (in_g (List.mem_of_getElem? (i := 267) (by decide +kernel)) rfl)⟩
theorem lkF_X5_288 : LkF RX5 288 5 7 := ⟨RX5, TX5, 8, rfl, by decide, Or.inl (in_g (List.mem_of_getElem? (i := 268) (by decide +kernel)) rfl)⟩
theorem lkP_X5_288 : LkP RX5 288 5 7 .int := ⟨RX5, TX5, 8, rfl, by decide, rfl, by decide +kernel, Or.inl (in_g (List.mem_of_getElem? (i := 268) (by decide +kernel)) rfl)⟩
theorem lkF_X6_7 : LkF RX6 7 6 0 := ⟨RX6, TX6, 28, rfl, by decide, Or.inl (in_g (List.mem_of_getElem? (i := 764) (by decide +kernel)) rfl)⟩
theorem lkF_X6_13 : LkF RX6 13 6 1 := ⟨RX6, TX6, 28, rfl, by decide, Or.inl (in_g (List.mem_of_getElem? (i := 765) (by decide +kernel)) rfl)⟩
theorem lkF_X6_16 : LkF RX6 16 6 2 := ⟨RX6, TX6, 28, rfl, by decide, Or.inl (in_g (List.mem_of_getElem? (i := 766) (by decide +kernel)) rfl)⟩
theorem lkF_X6_120 : LkF RX6 120 6 3 := ⟨RX6, TX6, 28, rfl, by decide, Or.inl (in_g (List.mem_of_getElem? (i := 767) (by decide +kernel)) rfl)⟩
theorem lkP_X6_120 : LkP RX6 120 6 3 .int := ⟨RX6, TX6, 28, rfl, by decide, rfl, by decide +kernel, Or.inl (in_g (List.mem_of_getElem? (i := 767) (by decide +kernel)) rfl)⟩
theorem lkF_X6_19 : LkF RX6 19 6 4 := ⟨RX6, TX6, 28, rfl, by decide, Or.inl (in_g (List.mem_of_getElem? (i := 768) (by decide +kernel)) rfl)⟩
theorem lkF_X6_22 : LkF RX6 22 6 5 := ⟨RX6, TX6, 28, rfl, by decide, Or.inl (in_g (List.mem_of_getElem? (i := 769) (by decide +kernel)) rfl)⟩
theorem lkF_X6_240 : LkF RX6 240 6 6 := ⟨RX6, TX6, 28, rfl, by decide, Or.inl (in_g (List.mem_of_getElem? (i := 770) (by decide +kernel)) rfl)⟩
theorem lkP_X6_240 : LkP RX6 240 6 6 .int := ⟨RX6, TX6, 28, rfl, by decide, rfl, by decide +kernel, Or.inl (in_g (List.mem_of_getElem? (i := 770) (by decide +kernel)) rfl)⟩
theorem lkF_X6_243 : LkF RX6 243 6 7 := ⟨RX6, TX6, 28, rfl, by decide, Or.inl (in_g (List.mem_of_getElem? (i := 771) (by decide +kernel)) rfl)⟩
theorem lkP_X6_243 : LkP RX6 243 6 7 .int := ⟨RX6, TX6, 28, rfl, by decide, rfl, by decide +kernel, Or.inl (in_g (List.mem_of_getElem? (i := 771) (by decide +kernel)) rfl)⟩
theorem lkF_X6_25 : LkF RX6 25 6 8 := ⟨RX6, TX6, 28, rfl, by decide, Or.inl (in_g (List.mem_of_getElem? (i := 772) (by decide +kernel)) rfl)⟩
theorem lkF_X6_29 : LkF RX6 29 6 9 := ⟨RX6, TX6, 28, rfl, by decide, Or.inl (in_g (List.mem_of_getElem? (i := 773) (by decide +kernel)) rfl)⟩
theorem lkF_X6_32 : LkF RX6 32 6 10 := ⟨RX6, TX6, 28, rfl, by decide, Or.inl (in_g (List.mem_of_getElem? (i := 774) (by decide +kernel)) rfl)⟩
theorem lkF_X6_35 : LkF RX6 35 6 11 := ⟨RX6, TX6, 28, rfl, by decide, Or.inl (in_g (List.mem_of_getElem? (i := 775) (by decide +kernel)) rfl)⟩
theorem lkF_X6_38 : LkF RX6 38 6 12 := ⟨RX6, TX6, 28, rfl, by decide, Or.inl (in_g (List.mem_of_getElem? (i := 776) (by decide +kernel)) rfl)⟩
theorem lkF_X6_41 : LkF RX6 41 6 13 := ⟨RX6, TX6, 28, rfl, by decide, Or.inl (in_g (List.mem_of_getElem? (i := 777) (by decide +kernel)) rfl)⟩
theorem lkF_X6_85 : LkF RX6 85 6 14 := ⟨RX6, TX6, 28, rfl, by decide, Or.inl (in_g (List.mem_of_getElem? (i := 778) (by decide +kernel)) rfl)⟩
theorem lkP_X6_85 : LkP RX6 85 6 14 .int := ⟨RX6, TX6, 28, rfl, by decide, rfl, by decide +kernel, Or.inl (in_g (List.mem_of_getElem? (i := 778) (by decide +kernel)) rfl)⟩
theorem lkF_X6_200 : LkF RX6 200 6 15 := ⟨RX6, TX6, 28, rfl, by decide, Or.inl (in_g (List.mem_of_getElem? (i := 779) (by decide +kernel)) rfl)⟩
theorem lkP_X6_200 : LkP RX6 200 6 15 .int := ⟨RX6, TX6, 28, rfl, by decide, rfl, by decide +kernel, Or.inl (in_g (List.mem_of_getElem? (i := 779) (by decide +kernel)) rfl)⟩
theorem lkF_X6_203 : LkF RX6 203 6 16 := ⟨RX6, TX6, 28, rfl, by decide, Or.inl (in_g (List.mem_of_getElem? (i := 780) (by decide +kernel)) rfl)⟩
theorem lkP_X6_203 : LkP RX6 203 6 16 .long := ⟨RX6, TX6, 28, rfl, by decide, rfl, by decide +kernel, Or.inl (in_g (List.mem_of_getElem? (i := 780) (by decide +kernel)) rfl)⟩
theorem lkF_X6_207 : LkF RX6 207 6 17 := ⟨RX6, TX6, 28, rfl, by decide, Or.inl (in_g (List.mem_of_getElem? (i := 781) (by decide +kernel)) rfl)⟩
theorem lkP_X6_207 : LkP RX6 207 6 17 .long := ⟨RX6, TX6, 28, rfl, by decide, rfl, by decide +kernel, Or.inl (in_g (List.mem_of_getElem? (i := 781) (by decide +kernel)) rfl)⟩
theorem lkF_X6_210 : LkF RX6 210 6 18 := ⟨RX6, TX6, 28, rfl, by decide, Or.inl (in_g (List.mem_of_getElem? (i := 782) (by decide +kernel)) rfl)⟩
theorem lkP_X6_210 : LkP RX6 210 6 18 .int := ⟨RX6, TX6, 28, rfl, by decide, rfl, by decide +kernel, Or.inl (in_g (List.mem_of_getElem? (i := 782) (by decide +kernel)) rfl)⟩
theorem lkF_X6_44 : LkF RX6 44 6 19 := ⟨RX6, TX6, 28, rfl, by decide, Or.inl (in_g (List.mem_of_getElem? (i := 783) (by decide +kernel)) rfl)⟩
theorem lkF_X6_47 : LkF RX6 47 6 20 := ⟨RX6, TX6, 28, rfl, by decide, Or.inl (in_g (List.mem_of_getElem? (i := 784) (by decide +kernel)) rfl)⟩
theorem lkF_X6_50 : LkF RX6 50 6 21 := ⟨RX6, TX6, 28, rfl, by decide, Or.inl (in_g (List.mem_of_getElem? (i := 785) (by decide +kernel)) rfl)⟩
theorem lkF_X6_53 : LkF RX6 53 6 22 := ⟨RX6, TX6, 28, rfl, by decide, Or.inl (in_g (List.mem_of_getElem? (i := 786) (by decide +kernel)) rfl)⟩
theorem lkF_X6_218 : LkF RX6 218 6 23 := ⟨RX6, TX6, 28, rfl, by decide, Or.inl (in_g (List.mem_of_getElem? (i := 787) (by decide +kernel)) rfl)⟩
theorem lkP_X6_218 : LkP RX6 218 6 23 .int := ⟨RX6, TX6, 28, rfl, by decide, rfl, by decide +kernel, Or.inl (in_g (List.mem_of_getElem? (i := 787) (by decide +kernel)) rfl)⟩
theorem lkF_X6_221 : LkF RX6 221 6 24 := ⟨RX6, TX6, 28, rfl, by decide, Or.inl (in_g (List.mem_of_getElem? (i := 788) (by decide +kernel)) rfl)⟩
theorem lkP_X6_221 : LkP RX6 221 6 24 .int := ⟨RX6, TX6, 28, rfl, by decide, rfl, by decide +kernel, Or.inl (in_g (List.mem_of_getElem? (i := 788) (by decide +kernel)) rfl)⟩
theorem lkF_X6_56 : LkF RX6 56 6 25 := ⟨RX6, TX6, 28, rfl, by decide, Or.inl (in_g (List.mem_of_getElem? (i := 789) (by decide +kernel)) rfl)⟩
theorem lkF_X6_59 : LkF RX6 59 6 26 := ⟨RX6, TX6, 28, rfl, by decide, Or.inl (in_g (List.mem_of_getElem? (i := 790) (by decide +kernel)) rfl)⟩
theorem lkF_X6_62 : LkF RX6 62 6 27 := ⟨RX6, TX6, 28, rfl, by decide, Or.inl (in_g (List.mem_of_getElem? (i := 791) (by decide +kernel)) rfl)⟩
theorem lkM_L_9 : LkM RL 9 yX5_init := Or.inl (in_g (List.mem_of_getElem? (i := 79) (by decide +kernel)) rfl)
theorem lkM_X5_9 : LkM RX5 9 yX0_init := Or.inr ⟨"OutageScreen", in_n (List.mem_of_getElem? (i := 87) (by decide +kernel)) rfl⟩
theorem lkM_X5_18 : LkM RX5 18 yX1_init := Or.inl (in_g (List.mem_of_getElem? (i := 136) (by decide +kernel)) rfl)
theorem lkM_X1_17 : LkM RX1 17 yX0_init := Or.inr ⟨"OutageScreen", in_n (List.mem_of_getElem? (i := 142) (by decide +kernel)) rfl⟩
theorem lkM_X5_25 : LkM RX5 25 yX3_init := Or.inr ⟨"OutageScreen", in_n (List.mem_of_getElem? (i := 156) (by decide +kernel)) rfl⟩
theorem lkM_X5_32 : LkM RX5 32 yX4_init := Or.inl (in_g (List.mem_of_getElem? (i := 181) (by decide +kernel)) rfl)
theorem lkM_X5_41 : LkM RX5 41 yX2_init := Or.inr ⟨"OutageScreen", in_n (List.mem_of_getElem? (i := 236) (by decide +kernel)) rfl⟩
theorem lkM_L_13 : LkM RL 13 yX5_begins := Or.inl (in_g (List.mem_of_getElem? (i := 286) (by decide +kernel)) rfl)
theorem lkM_X5_46 : LkM RX5 46 yX0_canHave := Or.inl (in_g (List.mem_of_getElem? (i := 290) (by decide +kernel)) rfl)
theorem lkM_X0_38 : LkM RX0 38 yX5_within := Or.inr ⟨"OutageScreen", in_n (List.mem_of_getElem? (i := 293) (by decide +kernel)) rfl⟩
theorem lkM_X5_50 : LkM RX5 50 yX5_bad := Or.inl (in_g (List.mem_of_getElem? (i := 296) (by decide +kernel)) rfl)
theorem lkM_X5_54 : LkM RX5 54 yX1_keep := Or.inl (in_g (List.mem_of_getElem? (i := 300) (by decide +kernel)) rfl)
theorem lkM_X1_25 : LkM RX1 25 yX0_copy := Or.inl (in_g (List.mem_of_getElem? (i := 304) (by decide +kernel)) rfl)
theorem lkM_X5_57 : LkM RX5 57 yX0_restart := Or.inl (in_g (List.mem_of_getElem? (i := 308) (by decide +kernel)) rfl)
theorem lkM_L_18 : LkM RL 18 yX5_feeds := Or.inl (in_g (List.mem_of_getElem? (i := 312) (by decide +kernel)) rfl)
theorem lkM_X5_61 : LkM RX5 61 yX0_canInject := Or.inl (in_g (List.mem_of_getElem? (i := 316) (by decide +kernel)) rfl)
theorem lkM_X0_42 : LkM RX0 42 yX0_hasBus := Or.inl (in_g (List.mem_of_getElem? (i := 320) (by decide +kernel)) rfl)
theorem lkM_X5_65 : LkM RX5 65 yX0_inject := Or.inl (in_g (List.mem_of_getElem? (i := 324) (by decide +kernel)) rfl)
theorem lkM_L_23 : LkM RL 23 yX5_line := Or.inl (in_g (List.mem_of_getElem? (i := 328) (by decide +kernel)) rfl)
theorem lkM_X5_69 : LkM RX5 69 yX0_canJoin := Or.inl (in_g (List.mem_of_getElem? (i := 332) (by decide +kernel)) rfl)
theorem lkM_X5_73 : LkM RX5 73 yX0_isFull := Or.inl (in_g (List.mem_of_getElem? (i := 336) (by decide +kernel)) rfl)
theorem lkM_X5_77 : LkM RX5 77 yX5_full := Or.inl (in_g (List.mem_of_getElem? (i := 340) (by decide +kernel)) rfl)
theorem lkM_X5_80 : LkM RX5 80 yX0_join := Or.inl (in_g (List.mem_of_getElem? (i := 344) (by decide +kernel)) rfl)
theorem lkM_L_28 : LkM RL 28 yX5_drops := Or.inl (in_g (List.mem_of_getElem? (i := 348) (by decide +kernel)) rfl)
theorem lkM_X5_84 : LkM RX5 84 yX0_hasLine := Or.inl (in_g (List.mem_of_getElem? (i := 352) (by decide +kernel)) rfl)
theorem lkM_X5_87 : LkM RX5 87 yX0_remove := Or.inl (in_g (List.mem_of_getElem? (i := 356) (by decide +kernel)) rfl)
theorem lkM_L_32 : LkM RL 32 yX5_switches := Or.inl (in_g (List.mem_of_getElem? (i := 360) (by decide +kernel)) rfl)
theorem lkM_X5_90 : LkM RX5 90 yX5_isFlag := Or.inl (in_g (List.mem_of_getElem? (i := 364) (by decide +kernel)) rfl)
theorem lkM_X5_93 : LkM RX5 93 yX0_turn := Or.inl (in_g (List.mem_of_getElem? (i := 367) (by decide +kernel)) rfl)
theorem lkM_L_36 : LkM RL 36 yX5_sets := Or.inl (in_g (List.mem_of_getElem? (i := 371) (by decide +kernel)) rfl)
theorem lkM_X5_97 : LkM RX5 97 yX0_canStrengthen := Or.inl (in_g (List.mem_of_getElem? (i := 375) (by decide +kernel)) rfl)
theorem lkM_X0_46 : LkM RX0 46 yX0_hasLine := Or.inl (in_g (List.mem_of_getElem? (i := 379) (by decide +kernel)) rfl)
theorem lkM_X5_100 : LkM RX5 100 yX0_strengthen := Or.inl (in_g (List.mem_of_getElem? (i := 380) (by decide +kernel)) rfl)
theorem lkM_X5_103 : LkM RX5 103 yX0_canBound := Or.inl (in_g (List.mem_of_getElem? (i := 384) (by decide +kernel)) rfl)
theorem lkM_X5_106 : LkM RX5 106 yX0_bound := Or.inl (in_g (List.mem_of_getElem? (i := 388) (by decide +kernel)) rfl)
theorem lkM_L_41 : LkM RL 41 yX5_of := Or.inl (in_g (List.mem_of_getElem? (i := 392) (by decide +kernel)) rfl)
theorem lkM_X5_109 : LkM RX5 109 yX5_within := Or.inl (in_g (List.mem_of_getElem? (i := 396) (by decide +kernel)) rfl)
theorem lkM_X5_130 : LkM RX5 130 yX5_isBridge := Or.inl (in_g (List.mem_of_getElem? (i := 397) (by decide +kernel)) rfl)
theorem lkM_X5_133 : LkM RX5 133 yX4_take := Or.inl (in_g (List.mem_of_getElem? (i := 401) (by decide +kernel)) rfl)
theorem lkM_X4_57 : LkM RX4 57 yX4_findIslands := Or.inl (in_g (List.mem_of_getElem? (i := 405) (by decide +kernel)) rfl)
theorem lkM_X4_66 : LkM RX4 66 yX4_merge := Or.inl (in_g (List.mem_of_getElem? (i := 409) (by decide +kernel)) rfl)
theorem lkM_X5_225 : LkM RX5 225 yX4_joins := Or.inl (in_g (List.mem_of_getElem? (i := 413) (by decide +kernel)) rfl)
theorem lkM_L_45 : LkM RL 45 yX5_flow := Or.inl (in_g (List.mem_of_getElem? (i := 417) (by decide +kernel)) rfl)
theorem lkM_X5_137 : LkM RX5 137 yX4_solve := Or.inl (in_g (List.mem_of_getElem? (i := 421) (by decide +kernel)) rfl)
theorem lkM_X4_76 : LkM RX4 76 yX4_startRow := Or.inl (in_g (List.mem_of_getElem? (i := 425) (by decide +kernel)) rfl)
theorem lkM_X4_83 : LkM RX4 83 yX4_addTerms := Or.inl (in_g (List.mem_of_getElem? (i := 429) (by decide +kernel)) rfl)
theorem lkM_X4_86 : LkM RX4 86 yX4_eliminate := Or.inl (in_g (List.mem_of_getElem? (i := 433) (by decide +kernel)) rfl)
theorem lkM_X4_89 : LkM RX4 89 yX4_readFlows := Or.inl (in_g (List.mem_of_getElem? (i := 437) (by decide +kernel)) rfl)
theorem lkM_X4_92 : LkM RX4 92 yX4_across := Or.inl (in_g (List.mem_of_getElem? (i := 441) (by decide +kernel)) rfl)
theorem lkM_X5_148 : LkM RX5 148 yX5_part := Or.inl (in_g (List.mem_of_getElem? (i := 445) (by decide +kernel)) rfl)
theorem lkM_X5_335 : LkM RX5 335 yJ9_abs_067f4 := Or.inl (in_g (List.mem_of_getElem? (i := 448) (by decide +kernel)) rfl)
theorem lkM_X5_339 : LkM RX5 339 yX5_commonDivisor := Or.inl (in_g (List.mem_of_getElem? (i := 451) (by decide +kernel)) rfl)
theorem lkM_L_50 : LkM RL 50 yX5_angle := Or.inl (in_g (List.mem_of_getElem? (i := 454) (by decide +kernel)) rfl)
theorem lkM_X5_152 : LkM RX5 152 yX0_hasBus := Or.inl (in_g (List.mem_of_getElem? (i := 458) (by decide +kernel)) rfl)
theorem lkM_L_54 : LkM RL 54 yX5_factor := Or.inl (in_g (List.mem_of_getElem? (i := 459) (by decide +kernel)) rfl)
theorem lkM_L_59 : LkM RL 59 yX5_island := Or.inl (in_g (List.mem_of_getElem? (i := 463) (by decide +kernel)) rfl)
theorem lkM_L_63 : LkM RL 63 yX5_trees := Or.inl (in_g (List.mem_of_getElem? (i := 467) (by decide +kernel)) rfl)
theorem lkM_X5_164 : LkM RX5 164 yX4_narrow := Or.inl (in_g (List.mem_of_getElem? (i := 471) (by decide +kernel)) rfl)
theorem lkM_L_68 : LkM RL 68 yX5_fed := Or.inl (in_g (List.mem_of_getElem? (i := 475) (by decide +kernel)) rfl)
theorem lkM_X5_172 : LkM RX5 172 yX4_ownSum := Or.inl (in_g (List.mem_of_getElem? (i := 480) (by decide +kernel)) rfl)
theorem lkM_L_72 : LkM RL 72 yX5_outage := Or.inl (in_g (List.mem_of_getElem? (i := 484) (by decide +kernel)) rfl)
theorem lkM_X5_175 : LkM RX5 175 yX5_no := Or.inl (in_g (List.mem_of_getElem? (i := 488) (by decide +kernel)) rfl)
theorem lkM_L_76 : LkM RL 76 yX5_spread := Or.inl (in_g (List.mem_of_getElem? (i := 492) (by decide +kernel)) rfl)
theorem lkM_L_80 : LkM RL 80 yX5_worst := Or.inl (in_g (List.mem_of_getElem? (i := 496) (by decide +kernel)) rfl)
theorem lkM_X5_178 : LkM RX5 178 yX4_load := Or.inl (in_g (List.mem_of_getElem? (i := 500) (by decide +kernel)) rfl)
theorem lkM_X4_96 : LkM RX4 96 yX4_solve := Or.inl (in_g (List.mem_of_getElem? (i := 504) (by decide +kernel)) rfl)
theorem lkM_X4_105 : LkM RX4 105 yJ9_abs_067f4 := Or.inl (in_g (List.mem_of_getElem? (i := 505) (by decide +kernel)) rfl)
theorem lkM_X4_114 : LkM RX4 114 yX4_weigh := Or.inl (in_g (List.mem_of_getElem? (i := 506) (by decide +kernel)) rfl)
theorem lkM_X4_118 : LkM RX4 118 yX5_isGreater := Or.inr ⟨"OutageScreen", in_n (List.mem_of_getElem? (i := 510) (by decide +kernel)) rfl⟩
theorem lkM_L_84 : LkM RL 84 yX5_ranked := Or.inl (in_g (List.mem_of_getElem? (i := 513) (by decide +kernel)) rfl)
theorem lkM_X5_194 : LkM RX5 194 yX0_serving := Or.inl (in_g (List.mem_of_getElem? (i := 517) (by decide +kernel)) rfl)
theorem lkM_X5_197 : LkM RX5 197 yX5_rankLines := Or.inl (in_g (List.mem_of_getElem? (i := 521) (by decide +kernel)) rfl)
theorem lkM_X5_323 : LkM RX5 323 yX5_rank := Or.inl (in_g (List.mem_of_getElem? (i := 525) (by decide +kernel)) rfl)
theorem lkM_X5_326 : LkM RX5 326 yX2_insert := Or.inl (in_g (List.mem_of_getElem? (i := 529) (by decide +kernel)) rfl)
theorem lkM_X2_29 : LkM RX2 29 yX5_isGreater := Or.inr ⟨"OutageScreen", in_n (List.mem_of_getElem? (i := 533) (by decide +kernel)) rfl⟩
theorem lkM_X5_200 : LkM RX5 200 yX2_has := Or.inl (in_g (List.mem_of_getElem? (i := 534) (by decide +kernel)) rfl)
theorem lkM_L_88 : LkM RL 88 yX5_pair := Or.inl (in_g (List.mem_of_getElem? (i := 538) (by decide +kernel)) rfl)
theorem lkM_X5_208 : LkM RX5 208 yX5_rankPairs := Or.inl (in_g (List.mem_of_getElem? (i := 543) (by decide +kernel)) rfl)
theorem lkM_L_92 : LkM RL 92 yX5_shift := Or.inl (in_g (List.mem_of_getElem? (i := 547) (by decide +kernel)) rfl)
theorem lkM_X5_220 : LkM RX5 220 yJ9_max_7cf53 := Or.inl (in_g (List.mem_of_getElem? (i := 551) (by decide +kernel)) rfl)
theorem lkM_L_96 : LkM RL 96 yX5_transfer := Or.inl (in_g (List.mem_of_getElem? (i := 554) (by decide +kernel)) rfl)
theorem lkM_X5_228 : LkM RX5 228 yX4_room := Or.inl (in_g (List.mem_of_getElem? (i := 558) (by decide +kernel)) rfl)
theorem lkM_X4_124 : LkM RX4 124 yX4_roomOf := Or.inl (in_g (List.mem_of_getElem? (i := 563) (by decide +kernel)) rfl)
theorem lkM_X4_128 : LkM RX4 128 yJ9_min_f86c9 := Or.inl (in_g (List.mem_of_getElem? (i := 567) (by decide +kernel)) rfl)
theorem lkM_X5_234 : LkM RX5 234 yJ9_min_7cf53 := Or.inl (in_g (List.mem_of_getElem? (i := 570) (by decide +kernel)) rfl)
theorem lkM_L_100 : LkM RL 100 yX5_count := Or.inl (in_g (List.mem_of_getElem? (i := 573) (by decide +kernel)) rfl)
theorem lkM_X5_237 : LkM RX5 237 yX4_islands := Or.inl (in_g (List.mem_of_getElem? (i := 577) (by decide +kernel)) rfl)
theorem lkM_X5_240 : LkM RX5 240 yX5_bridges := Or.inl (in_g (List.mem_of_getElem? (i := 581) (by decide +kernel)) rfl)
theorem lkM_X5_243 : LkM RX5 243 yX2_overloaded := Or.inl (in_g (List.mem_of_getElem? (i := 585) (by decide +kernel)) rfl)
theorem lkM_L_104 : LkM RL 104 yX5_type := Or.inl (in_g (List.mem_of_getElem? (i := 589) (by decide +kernel)) rfl)
theorem lkM_X5_246 : LkM RX5 246 yX3_isFull := Or.inl (in_g (List.mem_of_getElem? (i := 593) (by decide +kernel)) rfl)
theorem lkM_X5_247 : LkM RX5 247 yX3_append := Or.inl (in_g (List.mem_of_getElem? (i := 597) (by decide +kernel)) rfl)
theorem lkM_L_108 : LkM RL 108 yX5_clear := Or.inl (in_g (List.mem_of_getElem? (i := 601) (by decide +kernel)) rfl)
theorem lkM_X5_250 : LkM RX5 250 yX3_empty := Or.inl (in_g (List.mem_of_getElem? (i := 605) (by decide +kernel)) rfl)
theorem lkM_L_113 : LkM RL 113 yX5_does := Or.inl (in_g (List.mem_of_getElem? (i := 609) (by decide +kernel)) rfl)
theorem lkM_X5_253 : LkM RX5 253 yX3_findFault := Or.inl (in_g (List.mem_of_getElem? (i := 613) (by decide +kernel)) rfl)
theorem lkM_X3_25 : LkM RX3 25 yX3_rewind := Or.inl (in_g (List.mem_of_getElem? (i := 617) (by decide +kernel)) rfl)
theorem lkM_X3_28 : LkM RX3 28 yX3_hasMore := Or.inl (in_g (List.mem_of_getElem? (i := 621) (by decide +kernel)) rfl)
theorem lkM_X3_35 : LkM RX3 35 yX3_skipBlanks := Or.inl (in_g (List.mem_of_getElem? (i := 625) (by decide +kernel)) rfl)
theorem lkM_X3_32 : LkM RX3 32 yX3_readCommand := Or.inl (in_g (List.mem_of_getElem? (i := 629) (by decide +kernel)) rfl)
theorem lkM_X3_38 : LkM RX3 38 yX3_readWord := Or.inl (in_g (List.mem_of_getElem? (i := 633) (by decide +kernel)) rfl)
theorem lkM_X3_56 : LkM RX3 56 yX3_isLetter := Or.inl (in_g (List.mem_of_getElem? (i := 637) (by decide +kernel)) rfl)
theorem lkM_X3_79 : LkM RX3 79 yX5_within := Or.inr ⟨"OutageScreen", in_n (List.mem_of_getElem? (i := 640) (by decide +kernel)) rfl⟩
theorem lkM_X3_59 : LkM RX3 59 yX3_wordOf := Or.inl (in_g (List.mem_of_getElem? (i := 641) (by decide +kernel)) rfl)
theorem lkM_X3_63 : LkM RX3 63 yX3_isWord := Or.inl (in_g (List.mem_of_getElem? (i := 652) (by decide +kernel)) rfl)
theorem lkM_X3_67 : LkM RX3 67 yJ0_length_8abf5 := Or.inl (in_g (List.mem_of_getElem? (i := 656) (by decide +kernel)) rfl)
theorem lkM_X3_72 : LkM RX3 72 yJ0_charAt_5068e := Or.inl (in_g (List.mem_of_getElem? (i := 666) (by decide +kernel)) rfl)
theorem lkM_X3_44 : LkM RX3 44 yX3_numbersOf := Or.inl (in_g (List.mem_of_getElem? (i := 704) (by decide +kernel)) rfl)
theorem lkM_X3_48 : LkM RX3 48 yX3_readNumber := Or.inl (in_g (List.mem_of_getElem? (i := 707) (by decide +kernel)) rfl)
theorem lkM_X3_52 : LkM RX3 52 yX3_sees := Or.inl (in_g (List.mem_of_getElem? (i := 711) (by decide +kernel)) rfl)
theorem lkM_X3_76 : LkM RX3 76 yX3_seesDigit := Or.inl (in_g (List.mem_of_getElem? (i := 715) (by decide +kernel)) rfl)
theorem lkM_X5_256 : LkM RX5 256 yX3_rewind := Or.inl (in_g (List.mem_of_getElem? (i := 719) (by decide +kernel)) rfl)
theorem lkM_X5_259 : LkM RX5 259 yX3_hasMore := Or.inl (in_g (List.mem_of_getElem? (i := 720) (by decide +kernel)) rfl)
theorem lkM_X5_262 : LkM RX5 262 yX3_readCommand := Or.inl (in_g (List.mem_of_getElem? (i := 721) (by decide +kernel)) rfl)
theorem lkM_X5_271 : LkM RX5 271 yX5_obeys := Or.inl (in_g (List.mem_of_getElem? (i := 722) (by decide +kernel)) rfl)
theorem lkM_X5_330 : LkM RX5 330 yX5_obeysShort := Or.inl (in_g (List.mem_of_getElem? (i := 726) (by decide +kernel)) rfl)
theorem lkM_L_117 : LkM RL 117 yX5_back := Or.inl (in_g (List.mem_of_getElem? (i := 731) (by decide +kernel)) rfl)
theorem lkM_X5_278 : LkM RX5 278 yX1_restore := Or.inl (in_g (List.mem_of_getElem? (i := 735) (by decide +kernel)) rfl)
theorem lkM_L_121 : LkM RL 121 yX5_told := Or.inl (in_g (List.mem_of_getElem? (i := 739) (by decide +kernel)) rfl)
theorem lkM_L_125 : LkM RL 125 yX5_digest := Or.inl (in_g (List.mem_of_getElem? (i := 743) (by decide +kernel)) rfl)
theorem lkM_X5_299 : LkM RX5 299 yX5_told := Or.inl (in_g (List.mem_of_getElem? (i := 748) (by decide +kernel)) rfl)
theorem lkM_X5_302 : LkM RX5 302 yX5_mixed := Or.inl (in_g (List.mem_of_getElem? (i := 749) (by decide +kernel)) rfl)
theorem lkM_X5_306 : LkM RX5 306 yX5_island := Or.inl (in_g (List.mem_of_getElem? (i := 753) (by decide +kernel)) rfl)
theorem lkM_X5_309 : LkM RX5 309 yX5_of := Or.inl (in_g (List.mem_of_getElem? (i := 754) (by decide +kernel)) rfl)
theorem lkM_X5_312 : LkM RX5 312 yX5_flow := Or.inl (in_g (List.mem_of_getElem? (i := 755) (by decide +kernel)) rfl)
theorem lkM_X5_316 : LkM RX5 316 yX5_worst := Or.inl (in_g (List.mem_of_getElem? (i := 756) (by decide +kernel)) rfl)
theorem lkM_X5_319 : LkM RX5 319 yX5_count := Or.inl (in_g (List.mem_of_getElem? (i := 757) (by decide +kernel)) rfl)
theorem lkM_L_12 : LkM RL 12 yX6_init := Or.inl (in_g (List.mem_of_getElem? (i := 760) (by decide +kernel)) rfl)
theorem lkM_L_17 : LkM RL 17 yX6_begins := Or.inl (in_g (List.mem_of_getElem? (i := 849) (by decide +kernel)) rfl)
theorem lkM_X6_127 : LkM RX6 127 yX6_areBuses := Or.inl (in_g (List.mem_of_getElem? (i := 853) (by decide +kernel)) rfl)
theorem lkM_X6_65 : LkM RX6 65 yX6_in := Or.inl (in_g (List.mem_of_getElem? (i := 858) (by decide +kernel)) rfl)
theorem lkM_X6_130 : LkM RX6 130 yX6_refuses := Or.inl (in_g (List.mem_of_getElem? (i := 861) (by decide +kernel)) rfl)
theorem lkM_X6_134 : LkM RX6 134 yX6_aside := Or.inl (in_g (List.mem_of_getElem? (i := 865) (by decide +kernel)) rfl)
theorem lkM_X6_137 : LkM RX6 137 yX6_keeps := Or.inl (in_g (List.mem_of_getElem? (i := 869) (by decide +kernel)) rfl)
theorem lkM_X6_140 : LkM RX6 140 yX6_beginsNow := Or.inl (in_g (List.mem_of_getElem? (i := 873) (by decide +kernel)) rfl)
theorem lkM_L_22 : LkM RL 22 yX6_feeds := Or.inl (in_g (List.mem_of_getElem? (i := 877) (by decide +kernel)) rfl)
theorem lkM_X6_150 : LkM RX6 150 yX6_mayFeed := Or.inl (in_g (List.mem_of_getElem? (i := 881) (by decide +kernel)) rfl)
theorem lkM_X6_143 : LkM RX6 143 yX6_isBus := Or.inl (in_g (List.mem_of_getElem? (i := 885) (by decide +kernel)) rfl)
theorem lkM_L_27 : LkM RL 27 yX6_line := Or.inl (in_g (List.mem_of_getElem? (i := 891) (by decide +kernel)) rfl)
theorem lkM_X6_157 : LkM RX6 157 yX6_isLineTold := Or.inl (in_g (List.mem_of_getElem? (i := 895) (by decide +kernel)) rfl)
theorem lkM_X6_161 : LkM RX6 161 yX6_lineNow := Or.inl (in_g (List.mem_of_getElem? (i := 901) (by decide +kernel)) rfl)
theorem lkM_L_31 : LkM RL 31 yX6_drops := Or.inl (in_g (List.mem_of_getElem? (i := 905) (by decide +kernel)) rfl)
theorem lkM_X6_165 : LkM RX6 165 yX6_isLine := Or.inl (in_g (List.mem_of_getElem? (i := 909) (by decide +kernel)) rfl)
theorem lkM_X6_168 : LkM RX6 168 yX6_dropsNow := Or.inl (in_g (List.mem_of_getElem? (i := 913) (by decide +kernel)) rfl)
theorem lkM_L_35 : LkM RL 35 yX6_switches := Or.inl (in_g (List.mem_of_getElem? (i := 917) (by decide +kernel)) rfl)
theorem lkM_X6_171 : LkM RX6 171 yX6_becomes := Or.inl (in_g (List.mem_of_getElem? (i := 921) (by decide +kernel)) rfl)
theorem lkM_X6_69 : LkM RX6 69 yX6_lineAt := Or.inl (in_g (List.mem_of_getElem? (i := 925) (by decide +kernel)) rfl)
theorem lkM_L_40 : LkM RL 40 yX6_sets := Or.inl (in_g (List.mem_of_getElem? (i := 929) (by decide +kernel)) rfl)
theorem lkM_X6_175 : LkM RX6 175 yX6_maySet := Or.inl (in_g (List.mem_of_getElem? (i := 933) (by decide +kernel)) rfl)
theorem lkM_L_44 : LkM RL 44 yX6_of := Or.inl (in_g (List.mem_of_getElem? (i := 937) (by decide +kernel)) rfl)
theorem lkM_X6_183 : LkM RX6 183 yX6_isBridge := Or.inl (in_g (List.mem_of_getElem? (i := 941) (by decide +kernel)) rfl)
theorem lkM_X6_73 : LkM RX6 73 yX6_isIn := Or.inl (in_g (List.mem_of_getElem? (i := 945) (by decide +kernel)) rfl)
theorem lkM_X6_179 : LkM RX6 179 yX6_inSet := Or.inl (in_g (List.mem_of_getElem? (i := 949) (by decide +kernel)) rfl)
theorem lkM_X6_104 : LkM RX6 104 yX6_parts := Or.inl (in_g (List.mem_of_getElem? (i := 953) (by decide +kernel)) rfl)
theorem lkM_X6_81 : LkM RX6 81 yX6_has := Or.inl (in_g (List.mem_of_getElem? (i := 957) (by decide +kernel)) rfl)
theorem lkM_L_49 : LkM RL 49 yX6_flow := Or.inl (in_g (List.mem_of_getElem? (i := 960) (by decide +kernel)) rfl)
theorem lkM_X6_186 : LkM RX6 186 yX6_asTold := Or.inl (in_g (List.mem_of_getElem? (i := 964) (by decide +kernel)) rfl)
theorem lkM_X6_189 : LkM RX6 189 yX6_solves := Or.inl (in_g (List.mem_of_getElem? (i := 968) (by decide +kernel)) rfl)
theorem lkM_X6_107 : LkM RX6 107 yX6_treesOf := Or.inl (in_g (List.mem_of_getElem? (i := 972) (by decide +kernel)) rfl)
theorem lkM_X6_93 : LkM RX6 93 yX6_gathers := Or.inl (in_g (List.mem_of_getElem? (i := 976) (by decide +kernel)) rfl)
theorem lkM_X6_97 : LkM RX6 97 yX6_laysSquare := Or.inl (in_g (List.mem_of_getElem? (i := 980) (by decide +kernel)) rfl)
theorem lkM_X6_100 : LkM RX6 100 yX6_determinant := Or.inl (in_g (List.mem_of_getElem? (i := 984) (by decide +kernel)) rfl)
theorem lkM_X6_89 : LkM RX6 89 yX6_swapsRows := Or.inl (in_g (List.mem_of_getElem? (i := 988) (by decide +kernel)) rfl)
theorem lkM_X6_192 : LkM RX6 192 yX6_flowTold := Or.inl (in_g (List.mem_of_getElem? (i := 992) (by decide +kernel)) rfl)
theorem lkM_X6_113 : LkM RX6 113 yX6_flowOf := Or.inl (in_g (List.mem_of_getElem? (i := 996) (by decide +kernel)) rfl)
theorem lkM_X6_116 : LkM RX6 116 yX6_part := Or.inl (in_g (List.mem_of_getElem? (i := 1000) (by decide +kernel)) rfl)
theorem lkM_X6_77 : LkM RX6 77 yX6_common := Or.inl (in_g (List.mem_of_getElem? (i := 1003) (by decide +kernel)) rfl)
theorem lkM_L_53 : LkM RL 53 yX6_angle := Or.inl (in_g (List.mem_of_getElem? (i := 1006) (by decide +kernel)) rfl)
theorem lkM_L_58 : LkM RL 58 yX6_factor := Or.inl (in_g (List.mem_of_getElem? (i := 1010) (by decide +kernel)) rfl)
theorem lkM_X6_196 : LkM RX6 196 yX6_oneOf := Or.inl (in_g (List.mem_of_getElem? (i := 1014) (by decide +kernel)) rfl)
theorem lkM_L_62 : LkM RL 62 yX6_island := Or.inl (in_g (List.mem_of_getElem? (i := 1019) (by decide +kernel)) rfl)
theorem lkM_L_67 : LkM RL 67 yX6_trees := Or.inl (in_g (List.mem_of_getElem? (i := 1023) (by decide +kernel)) rfl)
theorem lkM_L_71 : LkM RL 71 yX6_fed := Or.inl (in_g (List.mem_of_getElem? (i := 1027) (by decide +kernel)) rfl)
theorem lkM_L_75 : LkM RL 75 yX6_outage := Or.inl (in_g (List.mem_of_getElem? (i := 1032) (by decide +kernel)) rfl)
theorem lkM_L_79 : LkM RL 79 yX6_spread := Or.inl (in_g (List.mem_of_getElem? (i := 1036) (by decide +kernel)) rfl)
theorem lkM_L_83 : LkM RL 83 yX6_worst := Or.inl (in_g (List.mem_of_getElem? (i := 1040) (by decide +kernel)) rfl)
theorem lkM_X6_215 : LkM RX6 215 yX6_judges := Or.inl (in_g (List.mem_of_getElem? (i := 1045) (by decide +kernel)) rfl)
theorem lkM_L_87 : LkM RL 87 yX6_ranked := Or.inl (in_g (List.mem_of_getElem? (i := 1049) (by decide +kernel)) rfl)
theorem lkM_X6_226 : LkM RX6 226 yX6_ranksAll := Or.inl (in_g (List.mem_of_getElem? (i := 1053) (by decide +kernel)) rfl)
theorem lkM_X6_224 : LkM RX6 224 yX6_ranks := Or.inl (in_g (List.mem_of_getElem? (i := 1057) (by decide +kernel)) rfl)
theorem lkM_L_91 : LkM RL 91 yX6_pair := Or.inl (in_g (List.mem_of_getElem? (i := 1061) (by decide +kernel)) rfl)
theorem lkM_L_95 : LkM RL 95 yX6_shift := Or.inl (in_g (List.mem_of_getElem? (i := 1065) (by decide +kernel)) rfl)
theorem lkM_L_99 : LkM RL 99 yX6_transfer := Or.inl (in_g (List.mem_of_getElem? (i := 1069) (by decide +kernel)) rfl)
theorem lkM_X6_232 : LkM RX6 232 yX6_carries := Or.inl (in_g (List.mem_of_getElem? (i := 1073) (by decide +kernel)) rfl)
theorem lkM_L_103 : LkM RL 103 yX6_count := Or.inl (in_g (List.mem_of_getElem? (i := 1078) (by decide +kernel)) rfl)
theorem lkM_X6_235 : LkM RX6 235 yX6_countOf := Or.inl (in_g (List.mem_of_getElem? (i := 1082) (by decide +kernel)) rfl)
theorem lkM_L_107 : LkM RL 107 yX6_type := Or.inl (in_g (List.mem_of_getElem? (i := 1086) (by decide +kernel)) rfl)
theorem lkM_L_112 : LkM RL 112 yX6_clear := Or.inl (in_g (List.mem_of_getElem? (i := 1091) (by decide +kernel)) rfl)
theorem lkM_L_116 : LkM RL 116 yX6_does := Or.inl (in_g (List.mem_of_getElem? (i := 1095) (by decide +kernel)) rfl)
theorem lkM_X6_276 : LkM RX6 276 yX6_order := Or.inl (in_g (List.mem_of_getElem? (i := 1099) (by decide +kernel)) rfl)
theorem lkM_X6_263 : LkM RX6 263 yX6_word := Or.inl (in_g (List.mem_of_getElem? (i := 1103) (by decide +kernel)) rfl)
theorem lkM_X6_254 : LkM RX6 254 yX6_here := Or.inl (in_g (List.mem_of_getElem? (i := 1107) (by decide +kernel)) rfl)
theorem lkM_X6_257 : LkM RX6 257 yX6_isLetter := Or.inl (in_g (List.mem_of_getElem? (i := 1111) (by decide +kernel)) rfl)
theorem lkM_X6_266 : LkM RX6 266 yX6_manyOf := Or.inl (in_g (List.mem_of_getElem? (i := 1117) (by decide +kernel)) rfl)
theorem lkM_X6_269 : LkM RX6 269 yX6_number := Or.inl (in_g (List.mem_of_getElem? (i := 1120) (by decide +kernel)) rfl)
theorem lkM_X6_260 : LkM RX6 260 yX6_isFigure := Or.inl (in_g (List.mem_of_getElem? (i := 1124) (by decide +kernel)) rfl)
theorem lkM_X6_273 : LkM RX6 273 yX6_isDone := Or.inl (in_g (List.mem_of_getElem? (i := 1130) (by decide +kernel)) rfl)
theorem lkM_L_120 : LkM RL 120 yX6_back := Or.inl (in_g (List.mem_of_getElem? (i := 1134) (by decide +kernel)) rfl)
theorem lkM_L_124 : LkM RL 124 yX6_told := Or.inl (in_g (List.mem_of_getElem? (i := 1138) (by decide +kernel)) rfl)
theorem lkM_X6_280 : LkM RX6 280 yX6_toldOf := Or.inl (in_g (List.mem_of_getElem? (i := 1142) (by decide +kernel)) rfl)
theorem lkM_L_129 : LkM RL 129 yX6_digest := Or.inl (in_g (List.mem_of_getElem? (i := 1146) (by decide +kernel)) rfl)
theorem yk_X0_init : Yok yX0_init cX0_init 1 none 0 := ⟨in_g (List.mem_of_getElem? (i := 89) (by decide +kernel)) rfl, in_g (List.mem_of_getElem? (i := 66) (by decide +kernel)) rfl, by decide +kernel, by decide +kernel⟩
theorem yk_X0_hasBus : Yok yX0_hasBus cX0_hasBus 2 (some .boolean) 1 := ⟨in_g (List.mem_of_getElem? (i := 323) (by decide +kernel)) rfl, in_g (List.mem_of_getElem? (i := 66) (by decide +kernel)) rfl, by decide +kernel, by decide +kernel⟩
theorem yv_X0_hasBus : YV yX0_hasBus := ⟨in_g (List.mem_of_getElem? (i := 321) (by decide +kernel)) rfl, in_g (List.mem_of_getElem? (i := 322) (by decide +kernel)) rfl⟩
theorem yk_X0_hasLine : Yok yX0_hasLine cX0_hasLine 2 (some .boolean) 1 := ⟨in_g (List.mem_of_getElem? (i := 355) (by decide +kernel)) rfl, in_g (List.mem_of_getElem? (i := 66) (by decide +kernel)) rfl, by decide +kernel, by decide +kernel⟩
theorem yv_X0_hasLine : YV yX0_hasLine := ⟨in_g (List.mem_of_getElem? (i := 353) (by decide +kernel)) rfl, in_g (List.mem_of_getElem? (i := 354) (by decide +kernel)) rfl⟩
theorem yk_X0_isFull : Yok yX0_isFull cX0_isFull 1 (some .boolean) 0 := ⟨in_g (List.mem_of_getElem? (i := 339) (by decide +kernel)) rfl, in_g (List.mem_of_getElem? (i := 66) (by decide +kernel)) rfl, by decide +kernel, by decide +kernel⟩
theorem yv_X0_isFull : YV yX0_isFull := ⟨in_g (List.mem_of_getElem? (i := 337) (by decide +kernel)) rfl, in_g (List.mem_of_getElem? (i := 338) (by decide +kernel)) rfl⟩
theorem yk_X0_serving : Yok yX0_serving cX0_serving 3 (some .int) 0 := ⟨in_g (List.mem_of_getElem? (i := 520) (by decide +kernel)) rfl, in_g (List.mem_of_getElem? (i := 66) (by decide +kernel)) rfl, by decide +kernel, by decide +kernel⟩
theorem yv_X0_serving : YV yX0_serving := ⟨in_g (List.mem_of_getElem? (i := 518) (by decide +kernel)) rfl, in_g (List.mem_of_getElem? (i := 519) (by decide +kernel)) rfl⟩
theorem yk_X0_canHave : Yok yX0_canHave cX0_canHave 1 (some .boolean) 1 := ⟨in_g (List.mem_of_getElem? (i := 292) (by decide +kernel)) rfl, in_g (List.mem_of_getElem? (i := 66) (by decide +kernel)) rfl, by decide +kernel, by decide +kernel⟩
theorem ys_X0_canHave : Cond.static yX0_canHave ∈ lw_g := in_g (List.mem_of_getElem? (i := 291) (by decide +kernel)) rfl
theorem yk_X0_restart : Yok yX0_restart cX0_restart 4 (some .int) 1 := ⟨in_g (List.mem_of_getElem? (i := 311) (by decide +kernel)) rfl, in_g (List.mem_of_getElem? (i := 66) (by decide +kernel)) rfl, by decide +kernel, by decide +kernel⟩
theorem yv_X0_restart : YV yX0_restart := ⟨in_g (List.mem_of_getElem? (i := 309) (by decide +kernel)) rfl, in_g (List.mem_of_getElem? (i := 310) (by decide +kernel)) rfl⟩
theorem yk_X0_canInject : Yok yX0_canInject cX0_canInject 3 (some .boolean) 2 := ⟨in_g (List.mem_of_getElem? (i := 319) (by decide +kernel)) rfl, in_g (List.mem_of_getElem? (i := 66) (by decide +kernel)) rfl, by decide +kernel, by decide +kernel⟩
theorem yv_X0_canInject : YV yX0_canInject := ⟨in_g (List.mem_of_getElem? (i := 317) (by decide +kernel)) rfl, in_g (List.mem_of_getElem? (i := 318) (by decide +kernel)) rfl⟩
theorem yk_X0_inject : Yok yX0_inject cX0_inject 4 (some .int) 2 := ⟨in_g (List.mem_of_getElem? (i := 327) (by decide +kernel)) rfl, in_g (List.mem_of_getElem? (i := 66) (by decide +kernel)) rfl, by decide +kernel, by decide +kernel⟩
theorem yv_X0_inject : YV yX0_inject := ⟨in_g (List.mem_of_getElem? (i := 325) (by decide +kernel)) rfl, in_g (List.mem_of_getElem? (i := 326) (by decide +kernel)) rfl⟩
theorem yk_X0_canJoin : Yok yX0_canJoin cX0_canJoin 5 (some .boolean) 4 := ⟨in_g (List.mem_of_getElem? (i := 335) (by decide +kernel)) rfl, in_g (List.mem_of_getElem? (i := 66) (by decide +kernel)) rfl, by decide +kernel, by decide +kernel⟩
theorem yv_X0_canJoin : YV yX0_canJoin := ⟨in_g (List.mem_of_getElem? (i := 333) (by decide +kernel)) rfl, in_g (List.mem_of_getElem? (i := 334) (by decide +kernel)) rfl⟩
theorem yk_X0_join : Yok yX0_join cX0_join 6 (some .int) 4 := ⟨in_g (List.mem_of_getElem? (i := 347) (by decide +kernel)) rfl, in_g (List.mem_of_getElem? (i := 66) (by decide +kernel)) rfl, by decide +kernel, by decide +kernel⟩
theorem yv_X0_join : YV yX0_join := ⟨in_g (List.mem_of_getElem? (i := 345) (by decide +kernel)) rfl, in_g (List.mem_of_getElem? (i := 346) (by decide +kernel)) rfl⟩
theorem yk_X0_remove : Yok yX0_remove cX0_remove 3 (some .int) 1 := ⟨in_g (List.mem_of_getElem? (i := 359) (by decide +kernel)) rfl, in_g (List.mem_of_getElem? (i := 66) (by decide +kernel)) rfl, by decide +kernel, by decide +kernel⟩
theorem yv_X0_remove : YV yX0_remove := ⟨in_g (List.mem_of_getElem? (i := 357) (by decide +kernel)) rfl, in_g (List.mem_of_getElem? (i := 358) (by decide +kernel)) rfl⟩
theorem yk_X0_turn : Yok yX0_turn cX0_turn 4 (some .int) 2 := ⟨in_g (List.mem_of_getElem? (i := 370) (by decide +kernel)) rfl, in_g (List.mem_of_getElem? (i := 66) (by decide +kernel)) rfl, by decide +kernel, by decide +kernel⟩
theorem yv_X0_turn : YV yX0_turn := ⟨in_g (List.mem_of_getElem? (i := 368) (by decide +kernel)) rfl, in_g (List.mem_of_getElem? (i := 369) (by decide +kernel)) rfl⟩
theorem yk_X0_canStrengthen : Yok yX0_canStrengthen cX0_canStrengthen 3 (some .boolean) 2 := ⟨in_g (List.mem_of_getElem? (i := 378) (by decide +kernel)) rfl, in_g (List.mem_of_getElem? (i := 66) (by decide +kernel)) rfl, by decide +kernel, by decide +kernel⟩
theorem yv_X0_canStrengthen : YV yX0_canStrengthen := ⟨in_g (List.mem_of_getElem? (i := 376) (by decide +kernel)) rfl, in_g (List.mem_of_getElem? (i := 377) (by decide +kernel)) rfl⟩
theorem yk_X0_strengthen : Yok yX0_strengthen cX0_strengthen 4 (some .int) 2 := ⟨in_g (List.mem_of_getElem? (i := 383) (by decide +kernel)) rfl, in_g (List.mem_of_getElem? (i := 66) (by decide +kernel)) rfl, by decide +kernel, by decide +kernel⟩
theorem yv_X0_strengthen : YV yX0_strengthen := ⟨in_g (List.mem_of_getElem? (i := 381) (by decide +kernel)) rfl, in_g (List.mem_of_getElem? (i := 382) (by decide +kernel)) rfl⟩
theorem yk_X0_canBound : Yok yX0_canBound cX0_canBound 3 (some .boolean) 2 := ⟨in_g (List.mem_of_getElem? (i := 387) (by decide +kernel)) rfl, in_g (List.mem_of_getElem? (i := 66) (by decide +kernel)) rfl, by decide +kernel, by decide +kernel⟩
theorem yv_X0_canBound : YV yX0_canBound := ⟨in_g (List.mem_of_getElem? (i := 385) (by decide +kernel)) rfl, in_g (List.mem_of_getElem? (i := 386) (by decide +kernel)) rfl⟩
theorem yk_X0_bound : Yok yX0_bound cX0_bound 4 (some .int) 2 := ⟨in_g (List.mem_of_getElem? (i := 391) (by decide +kernel)) rfl, in_g (List.mem_of_getElem? (i := 66) (by decide +kernel)) rfl, by decide +kernel, by decide +kernel⟩
theorem yv_X0_bound : YV yX0_bound := ⟨in_g (List.mem_of_getElem? (i := 389) (by decide +kernel)) rfl, in_g (List.mem_of_getElem? (i := 390) (by decide +kernel)) rfl⟩
theorem yk_X0_copy : Yok yX0_copy cX0_copy 3 none 1 := ⟨in_g (List.mem_of_getElem? (i := 307) (by decide +kernel)) rfl, in_g (List.mem_of_getElem? (i := 66) (by decide +kernel)) rfl, by decide +kernel, by decide +kernel⟩
theorem yv_X0_copy : YV yX0_copy := ⟨in_g (List.mem_of_getElem? (i := 305) (by decide +kernel)) rfl, in_g (List.mem_of_getElem? (i := 306) (by decide +kernel)) rfl⟩
theorem yk_X1_init : Yok yX1_init cX1_init 2 none 0 := ⟨in_g (List.mem_of_getElem? (i := 138) (by decide +kernel)) rfl, in_g (List.mem_of_getElem? (i := 67) (by decide +kernel)) rfl, by decide +kernel, by decide +kernel⟩
theorem yk_X1_keep : Yok yX1_keep cX1_keep 3 none 1 := ⟨in_g (List.mem_of_getElem? (i := 303) (by decide +kernel)) rfl, in_g (List.mem_of_getElem? (i := 67) (by decide +kernel)) rfl, by decide +kernel, by decide +kernel⟩
theorem yv_X1_keep : YV yX1_keep := ⟨in_g (List.mem_of_getElem? (i := 301) (by decide +kernel)) rfl, in_g (List.mem_of_getElem? (i := 302) (by decide +kernel)) rfl⟩
theorem yk_X1_restore : Yok yX1_restore cX1_restore 3 (some .int) 1 := ⟨in_g (List.mem_of_getElem? (i := 738) (by decide +kernel)) rfl, in_g (List.mem_of_getElem? (i := 67) (by decide +kernel)) rfl, by decide +kernel, by decide +kernel⟩
theorem yv_X1_restore : YV yX1_restore := ⟨in_g (List.mem_of_getElem? (i := 736) (by decide +kernel)) rfl, in_g (List.mem_of_getElem? (i := 737) (by decide +kernel)) rfl⟩
theorem yk_X2_init : Yok yX2_init cX2_init 1 none 0 := ⟨in_g (List.mem_of_getElem? (i := 238) (by decide +kernel)) rfl, in_g (List.mem_of_getElem? (i := 70) (by decide +kernel)) rfl, by decide +kernel, by decide +kernel⟩
theorem yk_X2_has : Yok yX2_has cX2_has 2 (some .boolean) 1 := ⟨in_g (List.mem_of_getElem? (i := 537) (by decide +kernel)) rfl, in_g (List.mem_of_getElem? (i := 70) (by decide +kernel)) rfl, by decide +kernel, by decide +kernel⟩
theorem yv_X2_has : YV yX2_has := ⟨in_g (List.mem_of_getElem? (i := 535) (by decide +kernel)) rfl, in_g (List.mem_of_getElem? (i := 536) (by decide +kernel)) rfl⟩
theorem yk_X2_insert : Yok yX2_insert cX2_insert 8 none 4 := ⟨in_g (List.mem_of_getElem? (i := 532) (by decide +kernel)) rfl, in_g (List.mem_of_getElem? (i := 70) (by decide +kernel)) rfl, by decide +kernel, by decide +kernel⟩
theorem yv_X2_insert : YV yX2_insert := ⟨in_g (List.mem_of_getElem? (i := 530) (by decide +kernel)) rfl, in_g (List.mem_of_getElem? (i := 531) (by decide +kernel)) rfl⟩
theorem yk_X2_overloaded : Yok yX2_overloaded cX2_overloaded 3 (some .int) 0 := ⟨in_g (List.mem_of_getElem? (i := 588) (by decide +kernel)) rfl, in_g (List.mem_of_getElem? (i := 70) (by decide +kernel)) rfl, by decide +kernel, by decide +kernel⟩
theorem yv_X2_overloaded : YV yX2_overloaded := ⟨in_g (List.mem_of_getElem? (i := 586) (by decide +kernel)) rfl, in_g (List.mem_of_getElem? (i := 587) (by decide +kernel)) rfl⟩
theorem yk_X3_init : Yok yX3_init cX3_init 1 none 0 := ⟨in_g (List.mem_of_getElem? (i := 158) (by decide +kernel)) rfl, in_g (List.mem_of_getElem? (i := 68) (by decide +kernel)) rfl, by decide +kernel, by decide +kernel⟩
theorem yk_X3_isFull : Yok yX3_isFull cX3_isFull 1 (some .boolean) 0 := ⟨in_g (List.mem_of_getElem? (i := 596) (by decide +kernel)) rfl, in_g (List.mem_of_getElem? (i := 68) (by decide +kernel)) rfl, by decide +kernel, by decide +kernel⟩
theorem yv_X3_isFull : YV yX3_isFull := ⟨in_g (List.mem_of_getElem? (i := 594) (by decide +kernel)) rfl, in_g (List.mem_of_getElem? (i := 595) (by decide +kernel)) rfl⟩
theorem yk_X3_append : Yok yX3_append cX3_append 2 (some .int) 1 := ⟨in_g (List.mem_of_getElem? (i := 600) (by decide +kernel)) rfl, in_g (List.mem_of_getElem? (i := 68) (by decide +kernel)) rfl, by decide +kernel, by decide +kernel⟩
theorem yv_X3_append : YV yX3_append := ⟨in_g (List.mem_of_getElem? (i := 598) (by decide +kernel)) rfl, in_g (List.mem_of_getElem? (i := 599) (by decide +kernel)) rfl⟩
theorem yk_X3_empty : Yok yX3_empty cX3_empty 2 (some .int) 0 := ⟨in_g (List.mem_of_getElem? (i := 608) (by decide +kernel)) rfl, in_g (List.mem_of_getElem? (i := 68) (by decide +kernel)) rfl, by decide +kernel, by decide +kernel⟩
theorem yv_X3_empty : YV yX3_empty := ⟨in_g (List.mem_of_getElem? (i := 606) (by decide +kernel)) rfl, in_g (List.mem_of_getElem? (i := 607) (by decide +kernel)) rfl⟩
theorem yk_X3_rewind : Yok yX3_rewind cX3_rewind 1 none 0 := ⟨in_g (List.mem_of_getElem? (i := 620) (by decide +kernel)) rfl, in_g (List.mem_of_getElem? (i := 68) (by decide +kernel)) rfl, by decide +kernel, by decide +kernel⟩
theorem yv_X3_rewind : YV yX3_rewind := ⟨in_g (List.mem_of_getElem? (i := 618) (by decide +kernel)) rfl, in_g (List.mem_of_getElem? (i := 619) (by decide +kernel)) rfl⟩
theorem yk_X3_findFault : Yok yX3_findFault cX3_findFault 2 (some .int) 0 := ⟨in_g (List.mem_of_getElem? (i := 616) (by decide +kernel)) rfl, in_g (List.mem_of_getElem? (i := 68) (by decide +kernel)) rfl, by decide +kernel, by decide +kernel⟩
theorem yv_X3_findFault : YV yX3_findFault := ⟨in_g (List.mem_of_getElem? (i := 614) (by decide +kernel)) rfl, in_g (List.mem_of_getElem? (i := 615) (by decide +kernel)) rfl⟩
theorem yk_X3_hasMore : Yok yX3_hasMore cX3_hasMore 1 (some .boolean) 0 := ⟨in_g (List.mem_of_getElem? (i := 624) (by decide +kernel)) rfl, in_g (List.mem_of_getElem? (i := 68) (by decide +kernel)) rfl, by decide +kernel, by decide +kernel⟩
theorem yv_X3_hasMore : YV yX3_hasMore := ⟨in_g (List.mem_of_getElem? (i := 622) (by decide +kernel)) rfl, in_g (List.mem_of_getElem? (i := 623) (by decide +kernel)) rfl⟩
theorem yk_X3_readCommand : Yok yX3_readCommand cX3_readCommand 3 (some .boolean) 0 := ⟨in_g (List.mem_of_getElem? (i := 632) (by decide +kernel)) rfl, in_g (List.mem_of_getElem? (i := 68) (by decide +kernel)) rfl, by decide +kernel, by decide +kernel⟩
theorem yv_X3_readCommand : YV yX3_readCommand := ⟨in_g (List.mem_of_getElem? (i := 630) (by decide +kernel)) rfl, in_g (List.mem_of_getElem? (i := 631) (by decide +kernel)) rfl⟩
theorem yk_X3_readWord : Yok yX3_readWord cX3_readWord 3 (some .boolean) 0 := ⟨in_g (List.mem_of_getElem? (i := 636) (by decide +kernel)) rfl, in_g (List.mem_of_getElem? (i := 68) (by decide +kernel)) rfl, by decide +kernel, by decide +kernel⟩
theorem yv_X3_readWord : YV yX3_readWord := ⟨in_g (List.mem_of_getElem? (i := 635) (by decide +kernel)) rfl, in_g (List.mem_of_getElem? (i := 17) (by decide +kernel)) rfl⟩
theorem yk_X3_isWord : Yok yX3_isWord cX3_isWord 4 (some .boolean) 2 := ⟨in_g (List.mem_of_getElem? (i := 655) (by decide +kernel)) rfl, in_g (List.mem_of_getElem? (i := 68) (by decide +kernel)) rfl, by decide +kernel, by decide +kernel⟩
theorem yv_X3_isWord : YV yX3_isWord := ⟨in_g (List.mem_of_getElem? (i := 654) (by decide +kernel)) rfl, in_g (List.mem_of_getElem? (i := 18) (by decide +kernel)) rfl⟩
theorem yk_X3_readNumber : Yok yX3_readNumber cX3_readNumber 6 (some .boolean) 2 := ⟨in_g (List.mem_of_getElem? (i := 710) (by decide +kernel)) rfl, in_g (List.mem_of_getElem? (i := 68) (by decide +kernel)) rfl, by decide +kernel, by decide +kernel⟩
theorem yv_X3_readNumber : YV yX3_readNumber := ⟨in_g (List.mem_of_getElem? (i := 709) (by decide +kernel)) rfl, in_g (List.mem_of_getElem? (i := 19) (by decide +kernel)) rfl⟩
theorem yk_X3_skipBlanks : Yok yX3_skipBlanks cX3_skipBlanks 1 none 0 := ⟨in_g (List.mem_of_getElem? (i := 628) (by decide +kernel)) rfl, in_g (List.mem_of_getElem? (i := 68) (by decide +kernel)) rfl, by decide +kernel, by decide +kernel⟩
theorem yv_X3_skipBlanks : YV yX3_skipBlanks := ⟨in_g (List.mem_of_getElem? (i := 627) (by decide +kernel)) rfl, in_g (List.mem_of_getElem? (i := 16) (by decide +kernel)) rfl⟩
theorem yk_X3_sees : Yok yX3_sees cX3_sees 2 (some .boolean) 1 := ⟨in_g (List.mem_of_getElem? (i := 714) (by decide +kernel)) rfl, in_g (List.mem_of_getElem? (i := 68) (by decide +kernel)) rfl, by decide +kernel, by decide +kernel⟩
theorem yv_X3_sees : YV yX3_sees := ⟨in_g (List.mem_of_getElem? (i := 713) (by decide +kernel)) rfl, in_g (List.mem_of_getElem? (i := 20) (by decide +kernel)) rfl⟩
theorem yk_X3_seesDigit : Yok yX3_seesDigit cX3_seesDigit 1 (some .boolean) 0 := ⟨in_g (List.mem_of_getElem? (i := 718) (by decide +kernel)) rfl, in_g (List.mem_of_getElem? (i := 68) (by decide +kernel)) rfl, by decide +kernel, by decide +kernel⟩
theorem yv_X3_seesDigit : YV yX3_seesDigit := ⟨in_g (List.mem_of_getElem? (i := 717) (by decide +kernel)) rfl, in_g (List.mem_of_getElem? (i := 21) (by decide +kernel)) rfl⟩
theorem yk_X3_isLetter : Yok yX3_isLetter cX3_isLetter 1 (some .boolean) 1 := ⟨in_g (List.mem_of_getElem? (i := 639) (by decide +kernel)) rfl, in_g (List.mem_of_getElem? (i := 68) (by decide +kernel)) rfl, by decide +kernel, by decide +kernel⟩
theorem ys_X3_isLetter : Cond.static yX3_isLetter ∈ lw_g := in_g (List.mem_of_getElem? (i := 638) (by decide +kernel)) rfl
theorem yk_X3_wordOf : Yok yX3_wordOf cX3_wordOf 1 (some (.object "java/lang/String")) 1 := ⟨in_g (List.mem_of_getElem? (i := 643) (by decide +kernel)) rfl, in_g (List.mem_of_getElem? (i := 68) (by decide +kernel)) rfl, by decide +kernel, by decide +kernel⟩
theorem ys_X3_wordOf : Cond.static yX3_wordOf ∈ lw_g := in_g (List.mem_of_getElem? (i := 642) (by decide +kernel)) rfl
theorem yk_X3_numbersOf : Yok yX3_numbersOf cX3_numbersOf 1 (some .int) 1 := ⟨in_g (List.mem_of_getElem? (i := 706) (by decide +kernel)) rfl, in_g (List.mem_of_getElem? (i := 68) (by decide +kernel)) rfl, by decide +kernel, by decide +kernel⟩
theorem ys_X3_numbersOf : Cond.static yX3_numbersOf ∈ lw_g := in_g (List.mem_of_getElem? (i := 705) (by decide +kernel)) rfl
theorem yk_X4_init : Yok yX4_init cX4_init 2 none 1 := ⟨in_g (List.mem_of_getElem? (i := 183) (by decide +kernel)) rfl, in_g (List.mem_of_getElem? (i := 69) (by decide +kernel)) rfl, by decide +kernel, by decide +kernel⟩
theorem yk_X4_take : Yok yX4_take cX4_take 4 none 2 := ⟨in_g (List.mem_of_getElem? (i := 404) (by decide +kernel)) rfl, in_g (List.mem_of_getElem? (i := 69) (by decide +kernel)) rfl, by decide +kernel, by decide +kernel⟩
theorem yv_X4_take : YV yX4_take := ⟨in_g (List.mem_of_getElem? (i := 402) (by decide +kernel)) rfl, in_g (List.mem_of_getElem? (i := 403) (by decide +kernel)) rfl⟩
theorem yk_X4_narrow : Yok yX4_narrow cX4_narrow 4 none 1 := ⟨in_g (List.mem_of_getElem? (i := 474) (by decide +kernel)) rfl, in_g (List.mem_of_getElem? (i := 69) (by decide +kernel)) rfl, by decide +kernel, by decide +kernel⟩
theorem yv_X4_narrow : YV yX4_narrow := ⟨in_g (List.mem_of_getElem? (i := 472) (by decide +kernel)) rfl, in_g (List.mem_of_getElem? (i := 473) (by decide +kernel)) rfl⟩
theorem yk_X4_findIslands : Yok yX4_findIslands cX4_findIslands 2 none 0 := ⟨in_g (List.mem_of_getElem? (i := 408) (by decide +kernel)) rfl, in_g (List.mem_of_getElem? (i := 69) (by decide +kernel)) rfl, by decide +kernel, by decide +kernel⟩
theorem yv_X4_findIslands : YV yX4_findIslands := ⟨in_g (List.mem_of_getElem? (i := 407) (by decide +kernel)) rfl, in_g (List.mem_of_getElem? (i := 3) (by decide +kernel)) rfl⟩
theorem yk_X4_merge : Yok yX4_merge cX4_merge 6 none 2 := ⟨in_g (List.mem_of_getElem? (i := 412) (by decide +kernel)) rfl, in_g (List.mem_of_getElem? (i := 69) (by decide +kernel)) rfl, by decide +kernel, by decide +kernel⟩
theorem yv_X4_merge : YV yX4_merge := ⟨in_g (List.mem_of_getElem? (i := 411) (by decide +kernel)) rfl, in_g (List.mem_of_getElem? (i := 4) (by decide +kernel)) rfl⟩
theorem yk_X4_joins : Yok yX4_joins cX4_joins 3 (some .boolean) 2 := ⟨in_g (List.mem_of_getElem? (i := 416) (by decide +kernel)) rfl, in_g (List.mem_of_getElem? (i := 69) (by decide +kernel)) rfl, by decide +kernel, by decide +kernel⟩
theorem yv_X4_joins : YV yX4_joins := ⟨in_g (List.mem_of_getElem? (i := 414) (by decide +kernel)) rfl, in_g (List.mem_of_getElem? (i := 415) (by decide +kernel)) rfl⟩
theorem yk_X4_islands : Yok yX4_islands cX4_islands 3 (some .int) 0 := ⟨in_g (List.mem_of_getElem? (i := 580) (by decide +kernel)) rfl, in_g (List.mem_of_getElem? (i := 69) (by decide +kernel)) rfl, by decide +kernel, by decide +kernel⟩
theorem yv_X4_islands : YV yX4_islands := ⟨in_g (List.mem_of_getElem? (i := 578) (by decide +kernel)) rfl, in_g (List.mem_of_getElem? (i := 579) (by decide +kernel)) rfl⟩
theorem yk_X4_ownSum : Yok yX4_ownSum cX4_ownSum 4 (some .int) 1 := ⟨in_g (List.mem_of_getElem? (i := 483) (by decide +kernel)) rfl, in_g (List.mem_of_getElem? (i := 69) (by decide +kernel)) rfl, by decide +kernel, by decide +kernel⟩
theorem yv_X4_ownSum : YV yX4_ownSum := ⟨in_g (List.mem_of_getElem? (i := 481) (by decide +kernel)) rfl, in_g (List.mem_of_getElem? (i := 482) (by decide +kernel)) rfl⟩
theorem yk_X4_solve : Yok yX4_solve cX4_solve 4 none 2 := ⟨in_g (List.mem_of_getElem? (i := 424) (by decide +kernel)) rfl, in_g (List.mem_of_getElem? (i := 69) (by decide +kernel)) rfl, by decide +kernel, by decide +kernel⟩
theorem yv_X4_solve : YV yX4_solve := ⟨in_g (List.mem_of_getElem? (i := 422) (by decide +kernel)) rfl, in_g (List.mem_of_getElem? (i := 423) (by decide +kernel)) rfl⟩
theorem yk_X4_startRow : Yok yX4_startRow cX4_startRow 7 none 3 := ⟨in_g (List.mem_of_getElem? (i := 428) (by decide +kernel)) rfl, in_g (List.mem_of_getElem? (i := 69) (by decide +kernel)) rfl, by decide +kernel, by decide +kernel⟩
theorem yv_X4_startRow : YV yX4_startRow := ⟨in_g (List.mem_of_getElem? (i := 427) (by decide +kernel)) rfl, in_g (List.mem_of_getElem? (i := 5) (by decide +kernel)) rfl⟩
theorem yk_X4_addTerms : Yok yX4_addTerms cX4_addTerms 4 none 3 := ⟨in_g (List.mem_of_getElem? (i := 432) (by decide +kernel)) rfl, in_g (List.mem_of_getElem? (i := 69) (by decide +kernel)) rfl, by decide +kernel, by decide +kernel⟩
theorem yv_X4_addTerms : YV yX4_addTerms := ⟨in_g (List.mem_of_getElem? (i := 431) (by decide +kernel)) rfl, in_g (List.mem_of_getElem? (i := 6) (by decide +kernel)) rfl⟩
theorem yk_X4_eliminate : Yok yX4_eliminate cX4_eliminate 9 none 0 := ⟨in_g (List.mem_of_getElem? (i := 436) (by decide +kernel)) rfl, in_g (List.mem_of_getElem? (i := 69) (by decide +kernel)) rfl, by decide +kernel, by decide +kernel⟩
theorem yv_X4_eliminate : YV yX4_eliminate := ⟨in_g (List.mem_of_getElem? (i := 435) (by decide +kernel)) rfl, in_g (List.mem_of_getElem? (i := 7) (by decide +kernel)) rfl⟩
theorem yk_X4_readFlows : Yok yX4_readFlows cX4_readFlows 3 none 0 := ⟨in_g (List.mem_of_getElem? (i := 440) (by decide +kernel)) rfl, in_g (List.mem_of_getElem? (i := 69) (by decide +kernel)) rfl, by decide +kernel, by decide +kernel⟩
theorem yv_X4_readFlows : YV yX4_readFlows := ⟨in_g (List.mem_of_getElem? (i := 439) (by decide +kernel)) rfl, in_g (List.mem_of_getElem? (i := 8) (by decide +kernel)) rfl⟩
theorem yk_X4_across : Yok yX4_across cX4_across 3 (some .long) 2 := ⟨in_g (List.mem_of_getElem? (i := 444) (by decide +kernel)) rfl, in_g (List.mem_of_getElem? (i := 69) (by decide +kernel)) rfl, by decide +kernel, by decide +kernel⟩
theorem yv_X4_across : YV yX4_across := ⟨in_g (List.mem_of_getElem? (i := 443) (by decide +kernel)) rfl, in_g (List.mem_of_getElem? (i := 9) (by decide +kernel)) rfl⟩
theorem yk_X4_load : Yok yX4_load cX4_load 2 none 0 := ⟨in_g (List.mem_of_getElem? (i := 503) (by decide +kernel)) rfl, in_g (List.mem_of_getElem? (i := 69) (by decide +kernel)) rfl, by decide +kernel, by decide +kernel⟩
theorem yv_X4_load : YV yX4_load := ⟨in_g (List.mem_of_getElem? (i := 501) (by decide +kernel)) rfl, in_g (List.mem_of_getElem? (i := 502) (by decide +kernel)) rfl⟩
theorem yk_X4_weigh : Yok yX4_weigh cX4_weigh 6 none 3 := ⟨in_g (List.mem_of_getElem? (i := 509) (by decide +kernel)) rfl, in_g (List.mem_of_getElem? (i := 69) (by decide +kernel)) rfl, by decide +kernel, by decide +kernel⟩
theorem yv_X4_weigh : YV yX4_weigh := ⟨in_g (List.mem_of_getElem? (i := 508) (by decide +kernel)) rfl, in_g (List.mem_of_getElem? (i := 11) (by decide +kernel)) rfl⟩
theorem yk_X4_room : Yok yX4_room cX4_room 6 (some .int) 2 := ⟨in_g (List.mem_of_getElem? (i := 561) (by decide +kernel)) rfl, in_g (List.mem_of_getElem? (i := 69) (by decide +kernel)) rfl, by decide +kernel, by decide +kernel⟩
theorem yv_X4_room : YV yX4_room := ⟨in_g (List.mem_of_getElem? (i := 559) (by decide +kernel)) rfl, in_g (List.mem_of_getElem? (i := 560) (by decide +kernel)) rfl⟩
theorem yk_X4_roomOf : Yok yX4_roomOf cX4_roomOf 6 (some .long) 3 := ⟨in_g (List.mem_of_getElem? (i := 565) (by decide +kernel)) rfl, in_g (List.mem_of_getElem? (i := 69) (by decide +kernel)) rfl, by decide +kernel, by decide +kernel⟩
theorem ys_X4_roomOf : Cond.static yX4_roomOf ∈ lw_g := in_g (List.mem_of_getElem? (i := 564) (by decide +kernel)) rfl
theorem yk_X5_init : Yok yX5_init cX5_init 1 none 0 := ⟨in_g (List.mem_of_getElem? (i := 81) (by decide +kernel)) rfl, in_g (List.mem_of_getElem? (i := 65) (by decide +kernel)) rfl, by decide +kernel, by decide +kernel⟩
theorem yk_X5_begins : Yok yX5_begins cX5_begins 2 (some .int) 1 := ⟨in_g (List.mem_of_getElem? (i := 289) (by decide +kernel)) rfl, in_g (List.mem_of_getElem? (i := 65) (by decide +kernel)) rfl, by decide +kernel, by decide +kernel⟩
theorem yv_X5_begins : YV yX5_begins := ⟨in_g (List.mem_of_getElem? (i := 287) (by decide +kernel)) rfl, in_g (List.mem_of_getElem? (i := 288) (by decide +kernel)) rfl⟩
theorem yk_X5_feeds : Yok yX5_feeds cX5_feeds 3 (some .int) 2 := ⟨in_g (List.mem_of_getElem? (i := 315) (by decide +kernel)) rfl, in_g (List.mem_of_getElem? (i := 65) (by decide +kernel)) rfl, by decide +kernel, by decide +kernel⟩
theorem yv_X5_feeds : YV yX5_feeds := ⟨in_g (List.mem_of_getElem? (i := 313) (by decide +kernel)) rfl, in_g (List.mem_of_getElem? (i := 314) (by decide +kernel)) rfl⟩
theorem yk_X5_line : Yok yX5_line cX5_line 5 (some .int) 4 := ⟨in_g (List.mem_of_getElem? (i := 331) (by decide +kernel)) rfl, in_g (List.mem_of_getElem? (i := 65) (by decide +kernel)) rfl, by decide +kernel, by decide +kernel⟩
theorem yv_X5_line : YV yX5_line := ⟨in_g (List.mem_of_getElem? (i := 329) (by decide +kernel)) rfl, in_g (List.mem_of_getElem? (i := 330) (by decide +kernel)) rfl⟩
theorem yk_X5_drops : Yok yX5_drops cX5_drops 2 (some .int) 1 := ⟨in_g (List.mem_of_getElem? (i := 351) (by decide +kernel)) rfl, in_g (List.mem_of_getElem? (i := 65) (by decide +kernel)) rfl, by decide +kernel, by decide +kernel⟩
theorem yv_X5_drops : YV yX5_drops := ⟨in_g (List.mem_of_getElem? (i := 349) (by decide +kernel)) rfl, in_g (List.mem_of_getElem? (i := 350) (by decide +kernel)) rfl⟩
theorem yk_X5_switches : Yok yX5_switches cX5_switches 3 (some .int) 2 := ⟨in_g (List.mem_of_getElem? (i := 363) (by decide +kernel)) rfl, in_g (List.mem_of_getElem? (i := 65) (by decide +kernel)) rfl, by decide +kernel, by decide +kernel⟩
theorem yv_X5_switches : YV yX5_switches := ⟨in_g (List.mem_of_getElem? (i := 361) (by decide +kernel)) rfl, in_g (List.mem_of_getElem? (i := 362) (by decide +kernel)) rfl⟩
theorem yk_X5_sets : Yok yX5_sets cX5_sets 4 (some .int) 3 := ⟨in_g (List.mem_of_getElem? (i := 374) (by decide +kernel)) rfl, in_g (List.mem_of_getElem? (i := 65) (by decide +kernel)) rfl, by decide +kernel, by decide +kernel⟩
theorem yv_X5_sets : YV yX5_sets := ⟨in_g (List.mem_of_getElem? (i := 372) (by decide +kernel)) rfl, in_g (List.mem_of_getElem? (i := 373) (by decide +kernel)) rfl⟩
theorem yk_X5_of : Yok yX5_of cX5_of 3 (some .int) 2 := ⟨in_g (List.mem_of_getElem? (i := 395) (by decide +kernel)) rfl, in_g (List.mem_of_getElem? (i := 65) (by decide +kernel)) rfl, by decide +kernel, by decide +kernel⟩
theorem yv_X5_of : YV yX5_of := ⟨in_g (List.mem_of_getElem? (i := 393) (by decide +kernel)) rfl, in_g (List.mem_of_getElem? (i := 394) (by decide +kernel)) rfl⟩
theorem yk_X5_flow : Yok yX5_flow cX5_flow 3 (some .long) 2 := ⟨in_g (List.mem_of_getElem? (i := 420) (by decide +kernel)) rfl, in_g (List.mem_of_getElem? (i := 65) (by decide +kernel)) rfl, by decide +kernel, by decide +kernel⟩
theorem yv_X5_flow : YV yX5_flow := ⟨in_g (List.mem_of_getElem? (i := 418) (by decide +kernel)) rfl, in_g (List.mem_of_getElem? (i := 419) (by decide +kernel)) rfl⟩
theorem yk_X5_angle : Yok yX5_angle cX5_angle 3 (some .long) 2 := ⟨in_g (List.mem_of_getElem? (i := 457) (by decide +kernel)) rfl, in_g (List.mem_of_getElem? (i := 65) (by decide +kernel)) rfl, by decide +kernel, by decide +kernel⟩
theorem yv_X5_angle : YV yX5_angle := ⟨in_g (List.mem_of_getElem? (i := 455) (by decide +kernel)) rfl, in_g (List.mem_of_getElem? (i := 456) (by decide +kernel)) rfl⟩
theorem yk_X5_factor : Yok yX5_factor cX5_factor 4 (some .long) 3 := ⟨in_g (List.mem_of_getElem? (i := 462) (by decide +kernel)) rfl, in_g (List.mem_of_getElem? (i := 65) (by decide +kernel)) rfl, by decide +kernel, by decide +kernel⟩
theorem yv_X5_factor : YV yX5_factor := ⟨in_g (List.mem_of_getElem? (i := 460) (by decide +kernel)) rfl, in_g (List.mem_of_getElem? (i := 461) (by decide +kernel)) rfl⟩
theorem yk_X5_island : Yok yX5_island cX5_island 2 (some .int) 1 := ⟨in_g (List.mem_of_getElem? (i := 466) (by decide +kernel)) rfl, in_g (List.mem_of_getElem? (i := 65) (by decide +kernel)) rfl, by decide +kernel, by decide +kernel⟩
theorem yv_X5_island : YV yX5_island := ⟨in_g (List.mem_of_getElem? (i := 464) (by decide +kernel)) rfl, in_g (List.mem_of_getElem? (i := 465) (by decide +kernel)) rfl⟩
theorem yk_X5_trees : Yok yX5_trees cX5_trees 2 (some .long) 1 := ⟨in_g (List.mem_of_getElem? (i := 470) (by decide +kernel)) rfl, in_g (List.mem_of_getElem? (i := 65) (by decide +kernel)) rfl, by decide +kernel, by decide +kernel⟩
theorem yv_X5_trees : YV yX5_trees := ⟨in_g (List.mem_of_getElem? (i := 468) (by decide +kernel)) rfl, in_g (List.mem_of_getElem? (i := 469) (by decide +kernel)) rfl⟩
theorem yk_X5_fed : Yok yX5_fed cX5_fed 2 (some .int) 1 := ⟨in_g (List.mem_of_getElem? (i := 478) (by decide +kernel)) rfl, in_g (List.mem_of_getElem? (i := 65) (by decide +kernel)) rfl, by decide +kernel, by decide +kernel⟩
theorem yv_X5_fed : YV yX5_fed := ⟨in_g (List.mem_of_getElem? (i := 476) (by decide +kernel)) rfl, in_g (List.mem_of_getElem? (i := 477) (by decide +kernel)) rfl⟩
theorem yk_X5_outage : Yok yX5_outage cX5_outage 4 (some .long) 3 := ⟨in_g (List.mem_of_getElem? (i := 487) (by decide +kernel)) rfl, in_g (List.mem_of_getElem? (i := 65) (by decide +kernel)) rfl, by decide +kernel, by decide +kernel⟩
theorem yv_X5_outage : YV yX5_outage := ⟨in_g (List.mem_of_getElem? (i := 485) (by decide +kernel)) rfl, in_g (List.mem_of_getElem? (i := 486) (by decide +kernel)) rfl⟩
theorem yk_X5_spread : Yok yX5_spread cX5_spread 4 (some .long) 3 := ⟨in_g (List.mem_of_getElem? (i := 495) (by decide +kernel)) rfl, in_g (List.mem_of_getElem? (i := 65) (by decide +kernel)) rfl, by decide +kernel, by decide +kernel⟩
theorem yv_X5_spread : YV yX5_spread := ⟨in_g (List.mem_of_getElem? (i := 493) (by decide +kernel)) rfl, in_g (List.mem_of_getElem? (i := 494) (by decide +kernel)) rfl⟩
theorem yk_X5_worst : Yok yX5_worst cX5_worst 3 (some .long) 2 := ⟨in_g (List.mem_of_getElem? (i := 499) (by decide +kernel)) rfl, in_g (List.mem_of_getElem? (i := 65) (by decide +kernel)) rfl, by decide +kernel, by decide +kernel⟩
theorem yv_X5_worst : YV yX5_worst := ⟨in_g (List.mem_of_getElem? (i := 497) (by decide +kernel)) rfl, in_g (List.mem_of_getElem? (i := 498) (by decide +kernel)) rfl⟩
theorem yk_X5_ranked : Yok yX5_ranked cX5_ranked 2 (some .int) 1 := ⟨in_g (List.mem_of_getElem? (i := 516) (by decide +kernel)) rfl, in_g (List.mem_of_getElem? (i := 65) (by decide +kernel)) rfl, by decide +kernel, by decide +kernel⟩
theorem yv_X5_ranked : YV yX5_ranked := ⟨in_g (List.mem_of_getElem? (i := 514) (by decide +kernel)) rfl, in_g (List.mem_of_getElem? (i := 515) (by decide +kernel)) rfl⟩
theorem yk_X5_pair : Yok yX5_pair cX5_pair 4 (some .long) 2 := ⟨in_g (List.mem_of_getElem? (i := 541) (by decide +kernel)) rfl, in_g (List.mem_of_getElem? (i := 65) (by decide +kernel)) rfl, by decide +kernel, by decide +kernel⟩
theorem yv_X5_pair : YV yX5_pair := ⟨in_g (List.mem_of_getElem? (i := 539) (by decide +kernel)) rfl, in_g (List.mem_of_getElem? (i := 540) (by decide +kernel)) rfl⟩
theorem yk_X5_shift : Yok yX5_shift cX5_shift 2 (some .int) 1 := ⟨in_g (List.mem_of_getElem? (i := 550) (by decide +kernel)) rfl, in_g (List.mem_of_getElem? (i := 65) (by decide +kernel)) rfl, by decide +kernel, by decide +kernel⟩
theorem yv_X5_shift : YV yX5_shift := ⟨in_g (List.mem_of_getElem? (i := 548) (by decide +kernel)) rfl, in_g (List.mem_of_getElem? (i := 549) (by decide +kernel)) rfl⟩
theorem yk_X5_transfer : Yok yX5_transfer cX5_transfer 6 (some .int) 3 := ⟨in_g (List.mem_of_getElem? (i := 557) (by decide +kernel)) rfl, in_g (List.mem_of_getElem? (i := 65) (by decide +kernel)) rfl, by decide +kernel, by decide +kernel⟩
theorem yv_X5_transfer : YV yX5_transfer := ⟨in_g (List.mem_of_getElem? (i := 555) (by decide +kernel)) rfl, in_g (List.mem_of_getElem? (i := 556) (by decide +kernel)) rfl⟩
theorem yk_X5_count : Yok yX5_count cX5_count 2 (some .int) 1 := ⟨in_g (List.mem_of_getElem? (i := 576) (by decide +kernel)) rfl, in_g (List.mem_of_getElem? (i := 65) (by decide +kernel)) rfl, by decide +kernel, by decide +kernel⟩
theorem yv_X5_count : YV yX5_count := ⟨in_g (List.mem_of_getElem? (i := 574) (by decide +kernel)) rfl, in_g (List.mem_of_getElem? (i := 575) (by decide +kernel)) rfl⟩
theorem yk_X5_type : Yok yX5_type cX5_type 2 (some .int) 1 := ⟨in_g (List.mem_of_getElem? (i := 592) (by decide +kernel)) rfl, in_g (List.mem_of_getElem? (i := 65) (by decide +kernel)) rfl, by decide +kernel, by decide +kernel⟩
theorem yv_X5_type : YV yX5_type := ⟨in_g (List.mem_of_getElem? (i := 590) (by decide +kernel)) rfl, in_g (List.mem_of_getElem? (i := 591) (by decide +kernel)) rfl⟩
theorem yk_X5_clear : Yok yX5_clear cX5_clear 1 (some .int) 0 := ⟨in_g (List.mem_of_getElem? (i := 604) (by decide +kernel)) rfl, in_g (List.mem_of_getElem? (i := 65) (by decide +kernel)) rfl, by decide +kernel, by decide +kernel⟩
theorem yv_X5_clear : YV yX5_clear := ⟨in_g (List.mem_of_getElem? (i := 602) (by decide +kernel)) rfl, in_g (List.mem_of_getElem? (i := 603) (by decide +kernel)) rfl⟩
theorem yk_X5_does : Yok yX5_does cX5_does 4 (some .int) 0 := ⟨in_g (List.mem_of_getElem? (i := 612) (by decide +kernel)) rfl, in_g (List.mem_of_getElem? (i := 65) (by decide +kernel)) rfl, by decide +kernel, by decide +kernel⟩
theorem yv_X5_does : YV yX5_does := ⟨in_g (List.mem_of_getElem? (i := 610) (by decide +kernel)) rfl, in_g (List.mem_of_getElem? (i := 611) (by decide +kernel)) rfl⟩
theorem yk_X5_back : Yok yX5_back cX5_back 1 (some .int) 0 := ⟨in_g (List.mem_of_getElem? (i := 734) (by decide +kernel)) rfl, in_g (List.mem_of_getElem? (i := 65) (by decide +kernel)) rfl, by decide +kernel, by decide +kernel⟩
theorem yv_X5_back : YV yX5_back := ⟨in_g (List.mem_of_getElem? (i := 732) (by decide +kernel)) rfl, in_g (List.mem_of_getElem? (i := 733) (by decide +kernel)) rfl⟩
theorem yk_X5_told : Yok yX5_told cX5_told 2 (some .int) 1 := ⟨in_g (List.mem_of_getElem? (i := 742) (by decide +kernel)) rfl, in_g (List.mem_of_getElem? (i := 65) (by decide +kernel)) rfl, by decide +kernel, by decide +kernel⟩
theorem yv_X5_told : YV yX5_told := ⟨in_g (List.mem_of_getElem? (i := 740) (by decide +kernel)) rfl, in_g (List.mem_of_getElem? (i := 741) (by decide +kernel)) rfl⟩
theorem yk_X5_digest : Yok yX5_digest cX5_digest 5 (some .long) 0 := ⟨in_g (List.mem_of_getElem? (i := 746) (by decide +kernel)) rfl, in_g (List.mem_of_getElem? (i := 65) (by decide +kernel)) rfl, by decide +kernel, by decide +kernel⟩
theorem yv_X5_digest : YV yX5_digest := ⟨in_g (List.mem_of_getElem? (i := 744) (by decide +kernel)) rfl, in_g (List.mem_of_getElem? (i := 745) (by decide +kernel)) rfl⟩
theorem yk_X5_bad : Yok yX5_bad cX5_bad 1 (some .int) 0 := ⟨in_g (List.mem_of_getElem? (i := 299) (by decide +kernel)) rfl, in_g (List.mem_of_getElem? (i := 65) (by decide +kernel)) rfl, by decide +kernel, by decide +kernel⟩
theorem yv_X5_bad : YV yX5_bad := ⟨in_g (List.mem_of_getElem? (i := 298) (by decide +kernel)) rfl, in_g (List.mem_of_getElem? (i := 0) (by decide +kernel)) rfl⟩
theorem yk_X5_no : Yok yX5_no cX5_no 1 (some .int) 0 := ⟨in_g (List.mem_of_getElem? (i := 491) (by decide +kernel)) rfl, in_g (List.mem_of_getElem? (i := 65) (by decide +kernel)) rfl, by decide +kernel, by decide +kernel⟩
theorem yv_X5_no : YV yX5_no := ⟨in_g (List.mem_of_getElem? (i := 490) (by decide +kernel)) rfl, in_g (List.mem_of_getElem? (i := 10) (by decide +kernel)) rfl⟩
theorem yk_X5_full : Yok yX5_full cX5_full 1 (some .int) 0 := ⟨in_g (List.mem_of_getElem? (i := 343) (by decide +kernel)) rfl, in_g (List.mem_of_getElem? (i := 65) (by decide +kernel)) rfl, by decide +kernel, by decide +kernel⟩
theorem yv_X5_full : YV yX5_full := ⟨in_g (List.mem_of_getElem? (i := 342) (by decide +kernel)) rfl, in_g (List.mem_of_getElem? (i := 1) (by decide +kernel)) rfl⟩
theorem yk_X5_isBridge : Yok yX5_isBridge cX5_isBridge 2 (some .boolean) 1 := ⟨in_g (List.mem_of_getElem? (i := 400) (by decide +kernel)) rfl, in_g (List.mem_of_getElem? (i := 65) (by decide +kernel)) rfl, by decide +kernel, by decide +kernel⟩
theorem yv_X5_isBridge : YV yX5_isBridge := ⟨in_g (List.mem_of_getElem? (i := 399) (by decide +kernel)) rfl, in_g (List.mem_of_getElem? (i := 2) (by decide +kernel)) rfl⟩
theorem yk_X5_bridges : Yok yX5_bridges cX5_bridges 3 (some .int) 0 := ⟨in_g (List.mem_of_getElem? (i := 584) (by decide +kernel)) rfl, in_g (List.mem_of_getElem? (i := 65) (by decide +kernel)) rfl, by decide +kernel, by decide +kernel⟩
theorem yv_X5_bridges : YV yX5_bridges := ⟨in_g (List.mem_of_getElem? (i := 583) (by decide +kernel)) rfl, in_g (List.mem_of_getElem? (i := 15) (by decide +kernel)) rfl⟩
theorem yk_X5_rankLines : Yok yX5_rankLines cX5_rankLines 2 none 0 := ⟨in_g (List.mem_of_getElem? (i := 524) (by decide +kernel)) rfl, in_g (List.mem_of_getElem? (i := 65) (by decide +kernel)) rfl, by decide +kernel, by decide +kernel⟩
theorem yv_X5_rankLines : YV yX5_rankLines := ⟨in_g (List.mem_of_getElem? (i := 523) (by decide +kernel)) rfl, in_g (List.mem_of_getElem? (i := 12) (by decide +kernel)) rfl⟩
theorem yk_X5_rankPairs : Yok yX5_rankPairs cX5_rankPairs 3 none 0 := ⟨in_g (List.mem_of_getElem? (i := 546) (by decide +kernel)) rfl, in_g (List.mem_of_getElem? (i := 65) (by decide +kernel)) rfl, by decide +kernel, by decide +kernel⟩
theorem yv_X5_rankPairs : YV yX5_rankPairs := ⟨in_g (List.mem_of_getElem? (i := 545) (by decide +kernel)) rfl, in_g (List.mem_of_getElem? (i := 14) (by decide +kernel)) rfl⟩
theorem yk_X5_rank : Yok yX5_rank cX5_rank 3 none 2 := ⟨in_g (List.mem_of_getElem? (i := 528) (by decide +kernel)) rfl, in_g (List.mem_of_getElem? (i := 65) (by decide +kernel)) rfl, by decide +kernel, by decide +kernel⟩
theorem yv_X5_rank : YV yX5_rank := ⟨in_g (List.mem_of_getElem? (i := 527) (by decide +kernel)) rfl, in_g (List.mem_of_getElem? (i := 13) (by decide +kernel)) rfl⟩
theorem yk_X5_obeys : Yok yX5_obeys cX5_obeys 6 (some .boolean) 2 := ⟨in_g (List.mem_of_getElem? (i := 725) (by decide +kernel)) rfl, in_g (List.mem_of_getElem? (i := 65) (by decide +kernel)) rfl, by decide +kernel, by decide +kernel⟩
theorem yv_X5_obeys : YV yX5_obeys := ⟨in_g (List.mem_of_getElem? (i := 724) (by decide +kernel)) rfl, in_g (List.mem_of_getElem? (i := 22) (by decide +kernel)) rfl⟩
theorem yk_X5_obeysShort : Yok yX5_obeysShort cX5_obeysShort 3 (some .boolean) 2 := ⟨in_g (List.mem_of_getElem? (i := 729) (by decide +kernel)) rfl, in_g (List.mem_of_getElem? (i := 65) (by decide +kernel)) rfl, by decide +kernel, by decide +kernel⟩
theorem yv_X5_obeysShort : YV yX5_obeysShort := ⟨in_g (List.mem_of_getElem? (i := 728) (by decide +kernel)) rfl, in_g (List.mem_of_getElem? (i := 23) (by decide +kernel)) rfl⟩
theorem yk_X5_within : Yok yX5_within cX5_within 3 (some .boolean) 3 := ⟨in_g (List.mem_of_getElem? (i := 295) (by decide +kernel)) rfl, in_g (List.mem_of_getElem? (i := 65) (by decide +kernel)) rfl, by decide +kernel, by decide +kernel⟩
theorem ys_X5_within : Cond.static yX5_within ∈ lw_g := in_g (List.mem_of_getElem? (i := 294) (by decide +kernel)) rfl
theorem yk_X5_isFlag : Yok yX5_isFlag cX5_isFlag 1 (some .boolean) 1 := ⟨in_g (List.mem_of_getElem? (i := 366) (by decide +kernel)) rfl, in_g (List.mem_of_getElem? (i := 65) (by decide +kernel)) rfl, by decide +kernel, by decide +kernel⟩
theorem ys_X5_isFlag : Cond.static yX5_isFlag ∈ lw_g := in_g (List.mem_of_getElem? (i := 365) (by decide +kernel)) rfl
theorem yk_X5_mixed : Yok yX5_mixed cX5_mixed 4 (some .long) 2 := ⟨in_g (List.mem_of_getElem? (i := 751) (by decide +kernel)) rfl, in_g (List.mem_of_getElem? (i := 65) (by decide +kernel)) rfl, by decide +kernel, by decide +kernel⟩
theorem ys_X5_mixed : Cond.static yX5_mixed ∈ lw_g := in_g (List.mem_of_getElem? (i := 750) (by decide +kernel)) rfl
theorem yk_X5_part : Yok yX5_part cX5_part 9 (some .long) 3 := ⟨in_g (List.mem_of_getElem? (i := 447) (by decide +kernel)) rfl, in_g (List.mem_of_getElem? (i := 65) (by decide +kernel)) rfl, by decide +kernel, by decide +kernel⟩
theorem ys_X5_part : Cond.static yX5_part ∈ lw_g := in_g (List.mem_of_getElem? (i := 446) (by decide +kernel)) rfl
theorem yk_X5_commonDivisor : Yok yX5_commonDivisor cX5_commonDivisor 11 (some .long) 2 := ⟨in_g (List.mem_of_getElem? (i := 453) (by decide +kernel)) rfl, in_g (List.mem_of_getElem? (i := 65) (by decide +kernel)) rfl, by decide +kernel, by decide +kernel⟩
theorem ys_X5_commonDivisor : Cond.static yX5_commonDivisor ∈ lw_g := in_g (List.mem_of_getElem? (i := 452) (by decide +kernel)) rfl
theorem yk_X5_isGreater : Yok yX5_isGreater cX5_isGreater 8 (some .boolean) 4 := ⟨in_g (List.mem_of_getElem? (i := 512) (by decide +kernel)) rfl, in_g (List.mem_of_getElem? (i := 65) (by decide +kernel)) rfl, by decide +kernel, by decide +kernel⟩
theorem ys_X5_isGreater : Cond.static yX5_isGreater ∈ lw_g := in_g (List.mem_of_getElem? (i := 511) (by decide +kernel)) rfl
theorem yk_X6_init : Yok yX6_init cX6_init 1 none 0 := ⟨in_g (List.mem_of_getElem? (i := 762) (by decide +kernel)) rfl, in_g (List.mem_of_getElem? (i := 71) (by decide +kernel)) rfl, by decide +kernel, by decide +kernel⟩
theorem yk_X6_in : Yok yX6_in cX6_in 6 (some .boolean) 3 := ⟨in_g (List.mem_of_getElem? (i := 860) (by decide +kernel)) rfl, in_g (List.mem_of_getElem? (i := 71) (by decide +kernel)) rfl, by decide +kernel, by decide +kernel⟩
theorem ys_X6_in : Cond.static yX6_in ∈ lw_g := in_g (List.mem_of_getElem? (i := 859) (by decide +kernel)) rfl
theorem yk_X6_refuses : Yok yX6_refuses cX6_refuses 2 (some .int) 1 := ⟨in_g (List.mem_of_getElem? (i := 864) (by decide +kernel)) rfl, in_g (List.mem_of_getElem? (i := 71) (by decide +kernel)) rfl, by decide +kernel, by decide +kernel⟩
theorem yv_X6_refuses : YV yX6_refuses := ⟨in_g (List.mem_of_getElem? (i := 863) (by decide +kernel)) rfl, in_g (List.mem_of_getElem? (i := 24) (by decide +kernel)) rfl⟩
theorem yk_X6_lineAt : Yok yX6_lineAt cX6_lineAt 3 (some .int) 2 := ⟨in_g (List.mem_of_getElem? (i := 928) (by decide +kernel)) rfl, in_g (List.mem_of_getElem? (i := 71) (by decide +kernel)) rfl, by decide +kernel, by decide +kernel⟩
theorem yv_X6_lineAt : YV yX6_lineAt := ⟨in_g (List.mem_of_getElem? (i := 927) (by decide +kernel)) rfl, in_g (List.mem_of_getElem? (i := 35) (by decide +kernel)) rfl⟩
theorem yk_X6_isBus : Yok yX6_isBus cX6_isBus 2 (some .boolean) 1 := ⟨in_g (List.mem_of_getElem? (i := 888) (by decide +kernel)) rfl, in_g (List.mem_of_getElem? (i := 71) (by decide +kernel)) rfl, by decide +kernel, by decide +kernel⟩
theorem yv_X6_isBus : YV yX6_isBus := ⟨in_g (List.mem_of_getElem? (i := 887) (by decide +kernel)) rfl, in_g (List.mem_of_getElem? (i := 29) (by decide +kernel)) rfl⟩
theorem yk_X6_isLine : Yok yX6_isLine cX6_isLine 2 (some .boolean) 1 := ⟨in_g (List.mem_of_getElem? (i := 912) (by decide +kernel)) rfl, in_g (List.mem_of_getElem? (i := 71) (by decide +kernel)) rfl, by decide +kernel, by decide +kernel⟩
theorem yv_X6_isLine : YV yX6_isLine := ⟨in_g (List.mem_of_getElem? (i := 911) (by decide +kernel)) rfl, in_g (List.mem_of_getElem? (i := 32) (by decide +kernel)) rfl⟩
theorem yk_X6_isIn : Yok yX6_isIn cX6_isIn 2 (some .boolean) 1 := ⟨in_g (List.mem_of_getElem? (i := 948) (by decide +kernel)) rfl, in_g (List.mem_of_getElem? (i := 71) (by decide +kernel)) rfl, by decide +kernel, by decide +kernel⟩
theorem yv_X6_isIn : YV yX6_isIn := ⟨in_g (List.mem_of_getElem? (i := 947) (by decide +kernel)) rfl, in_g (List.mem_of_getElem? (i := 38) (by decide +kernel)) rfl⟩
theorem yk_X6_has : Yok yX6_has cX6_has 2 (some .boolean) 2 := ⟨in_g (List.mem_of_getElem? (i := 959) (by decide +kernel)) rfl, in_g (List.mem_of_getElem? (i := 71) (by decide +kernel)) rfl, by decide +kernel, by decide +kernel⟩
theorem ys_X6_has : Cond.static yX6_has ∈ lw_g := in_g (List.mem_of_getElem? (i := 958) (by decide +kernel)) rfl
theorem yk_X6_inSet : Yok yX6_inSet cX6_inSet 3 (some .int) 0 := ⟨in_g (List.mem_of_getElem? (i := 952) (by decide +kernel)) rfl, in_g (List.mem_of_getElem? (i := 71) (by decide +kernel)) rfl, by decide +kernel, by decide +kernel⟩
theorem yv_X6_inSet : YV yX6_inSet := ⟨in_g (List.mem_of_getElem? (i := 951) (by decide +kernel)) rfl, in_g (List.mem_of_getElem? (i := 39) (by decide +kernel)) rfl⟩
theorem yk_X6_common : Yok yX6_common cX6_common 10 (some .long) 2 := ⟨in_g (List.mem_of_getElem? (i := 1005) (by decide +kernel)) rfl, in_g (List.mem_of_getElem? (i := 71) (by decide +kernel)) rfl, by decide +kernel, by decide +kernel⟩
theorem ys_X6_common : Cond.static yX6_common ∈ lw_g := in_g (List.mem_of_getElem? (i := 1004) (by decide +kernel)) rfl
theorem yk_X6_part : Yok yX6_part cX6_part 7 (some .long) 3 := ⟨in_g (List.mem_of_getElem? (i := 1002) (by decide +kernel)) rfl, in_g (List.mem_of_getElem? (i := 71) (by decide +kernel)) rfl, by decide +kernel, by decide +kernel⟩
theorem ys_X6_part : Cond.static yX6_part ∈ lw_g := in_g (List.mem_of_getElem? (i := 1001) (by decide +kernel)) rfl
theorem yk_X6_parts : Yok yX6_parts cX6_parts 7 none 1 := ⟨in_g (List.mem_of_getElem? (i := 956) (by decide +kernel)) rfl, in_g (List.mem_of_getElem? (i := 71) (by decide +kernel)) rfl, by decide +kernel, by decide +kernel⟩
theorem yv_X6_parts : YV yX6_parts := ⟨in_g (List.mem_of_getElem? (i := 955) (by decide +kernel)) rfl, in_g (List.mem_of_getElem? (i := 40) (by decide +kernel)) rfl⟩
theorem yk_X6_gathers : Yok yX6_gathers cX6_gathers 3 none 1 := ⟨in_g (List.mem_of_getElem? (i := 979) (by decide +kernel)) rfl, in_g (List.mem_of_getElem? (i := 71) (by decide +kernel)) rfl, by decide +kernel, by decide +kernel⟩
theorem yv_X6_gathers : YV yX6_gathers := ⟨in_g (List.mem_of_getElem? (i := 978) (by decide +kernel)) rfl, in_g (List.mem_of_getElem? (i := 44) (by decide +kernel)) rfl⟩
theorem yk_X6_laysSquare : Yok yX6_laysSquare cX6_laysSquare 12 none 2 := ⟨in_g (List.mem_of_getElem? (i := 983) (by decide +kernel)) rfl, in_g (List.mem_of_getElem? (i := 71) (by decide +kernel)) rfl, by decide +kernel, by decide +kernel⟩
theorem yv_X6_laysSquare : YV yX6_laysSquare := ⟨in_g (List.mem_of_getElem? (i := 982) (by decide +kernel)) rfl, in_g (List.mem_of_getElem? (i := 45) (by decide +kernel)) rfl⟩
theorem yk_X6_swapsRows : Yok yX6_swapsRows cX6_swapsRows 6 none 2 := ⟨in_g (List.mem_of_getElem? (i := 991) (by decide +kernel)) rfl, in_g (List.mem_of_getElem? (i := 71) (by decide +kernel)) rfl, by decide +kernel, by decide +kernel⟩
theorem yv_X6_swapsRows : YV yX6_swapsRows := ⟨in_g (List.mem_of_getElem? (i := 990) (by decide +kernel)) rfl, in_g (List.mem_of_getElem? (i := 47) (by decide +kernel)) rfl⟩
theorem yk_X6_determinant : Yok yX6_determinant cX6_determinant 9 (some .long) 0 := ⟨in_g (List.mem_of_getElem? (i := 987) (by decide +kernel)) rfl, in_g (List.mem_of_getElem? (i := 71) (by decide +kernel)) rfl, by decide +kernel, by decide +kernel⟩
theorem yv_X6_determinant : YV yX6_determinant := ⟨in_g (List.mem_of_getElem? (i := 986) (by decide +kernel)) rfl, in_g (List.mem_of_getElem? (i := 46) (by decide +kernel)) rfl⟩
theorem yk_X6_treesOf : Yok yX6_treesOf cX6_treesOf 3 (some .long) 2 := ⟨in_g (List.mem_of_getElem? (i := 975) (by decide +kernel)) rfl, in_g (List.mem_of_getElem? (i := 71) (by decide +kernel)) rfl, by decide +kernel, by decide +kernel⟩
theorem yv_X6_treesOf : YV yX6_treesOf := ⟨in_g (List.mem_of_getElem? (i := 974) (by decide +kernel)) rfl, in_g (List.mem_of_getElem? (i := 43) (by decide +kernel)) rfl⟩
theorem yk_X6_solves : Yok yX6_solves cX6_solves 6 none 1 := ⟨in_g (List.mem_of_getElem? (i := 971) (by decide +kernel)) rfl, in_g (List.mem_of_getElem? (i := 71) (by decide +kernel)) rfl, by decide +kernel, by decide +kernel⟩
theorem yv_X6_solves : YV yX6_solves := ⟨in_g (List.mem_of_getElem? (i := 970) (by decide +kernel)) rfl, in_g (List.mem_of_getElem? (i := 42) (by decide +kernel)) rfl⟩
theorem yk_X6_asTold : Yok yX6_asTold cX6_asTold 2 none 0 := ⟨in_g (List.mem_of_getElem? (i := 967) (by decide +kernel)) rfl, in_g (List.mem_of_getElem? (i := 71) (by decide +kernel)) rfl, by decide +kernel, by decide +kernel⟩
theorem yv_X6_asTold : YV yX6_asTold := ⟨in_g (List.mem_of_getElem? (i := 966) (by decide +kernel)) rfl, in_g (List.mem_of_getElem? (i := 41) (by decide +kernel)) rfl⟩
theorem yk_X6_oneOf : Yok yX6_oneOf cX6_oneOf 4 none 2 := ⟨in_g (List.mem_of_getElem? (i := 1017) (by decide +kernel)) rfl, in_g (List.mem_of_getElem? (i := 71) (by decide +kernel)) rfl, by decide +kernel, by decide +kernel⟩
theorem yv_X6_oneOf : YV yX6_oneOf := ⟨in_g (List.mem_of_getElem? (i := 1016) (by decide +kernel)) rfl, in_g (List.mem_of_getElem? (i := 50) (by decide +kernel)) rfl⟩
theorem yk_X6_flowOf : Yok yX6_flowOf cX6_flowOf 3 (some .long) 2 := ⟨in_g (List.mem_of_getElem? (i := 999) (by decide +kernel)) rfl, in_g (List.mem_of_getElem? (i := 71) (by decide +kernel)) rfl, by decide +kernel, by decide +kernel⟩
theorem yv_X6_flowOf : YV yX6_flowOf := ⟨in_g (List.mem_of_getElem? (i := 998) (by decide +kernel)) rfl, in_g (List.mem_of_getElem? (i := 49) (by decide +kernel)) rfl⟩
theorem yk_X6_flowTold : Yok yX6_flowTold cX6_flowTold 4 (some .long) 3 := ⟨in_g (List.mem_of_getElem? (i := 995) (by decide +kernel)) rfl, in_g (List.mem_of_getElem? (i := 71) (by decide +kernel)) rfl, by decide +kernel, by decide +kernel⟩
theorem yv_X6_flowTold : YV yX6_flowTold := ⟨in_g (List.mem_of_getElem? (i := 994) (by decide +kernel)) rfl, in_g (List.mem_of_getElem? (i := 48) (by decide +kernel)) rfl⟩
theorem yk_X6_aside : Yok yX6_aside cX6_aside 2 none 0 := ⟨in_g (List.mem_of_getElem? (i := 868) (by decide +kernel)) rfl, in_g (List.mem_of_getElem? (i := 71) (by decide +kernel)) rfl, by decide +kernel, by decide +kernel⟩
theorem yv_X6_aside : YV yX6_aside := ⟨in_g (List.mem_of_getElem? (i := 867) (by decide +kernel)) rfl, in_g (List.mem_of_getElem? (i := 25) (by decide +kernel)) rfl⟩
theorem yk_X6_keeps : Yok yX6_keeps cX6_keeps 2 none 0 := ⟨in_g (List.mem_of_getElem? (i := 872) (by decide +kernel)) rfl, in_g (List.mem_of_getElem? (i := 71) (by decide +kernel)) rfl, by decide +kernel, by decide +kernel⟩
theorem yv_X6_keeps : YV yX6_keeps := ⟨in_g (List.mem_of_getElem? (i := 871) (by decide +kernel)) rfl, in_g (List.mem_of_getElem? (i := 26) (by decide +kernel)) rfl⟩
theorem yk_X6_areBuses : Yok yX6_areBuses cX6_areBuses 1 (some .boolean) 1 := ⟨in_g (List.mem_of_getElem? (i := 855) (by decide +kernel)) rfl, in_g (List.mem_of_getElem? (i := 71) (by decide +kernel)) rfl, by decide +kernel, by decide +kernel⟩
theorem ys_X6_areBuses : Cond.static yX6_areBuses ∈ lw_g := in_g (List.mem_of_getElem? (i := 854) (by decide +kernel)) rfl
theorem yk_X6_beginsNow : Yok yX6_beginsNow cX6_beginsNow 4 (some .int) 1 := ⟨in_g (List.mem_of_getElem? (i := 876) (by decide +kernel)) rfl, in_g (List.mem_of_getElem? (i := 71) (by decide +kernel)) rfl, by decide +kernel, by decide +kernel⟩
theorem yv_X6_beginsNow : YV yX6_beginsNow := ⟨in_g (List.mem_of_getElem? (i := 875) (by decide +kernel)) rfl, in_g (List.mem_of_getElem? (i := 27) (by decide +kernel)) rfl⟩
theorem yk_X6_begins : Yok yX6_begins cX6_begins 2 (some .int) 1 := ⟨in_g (List.mem_of_getElem? (i := 852) (by decide +kernel)) rfl, in_g (List.mem_of_getElem? (i := 71) (by decide +kernel)) rfl, by decide +kernel, by decide +kernel⟩
theorem yv_X6_begins : YV yX6_begins := ⟨in_g (List.mem_of_getElem? (i := 850) (by decide +kernel)) rfl, in_g (List.mem_of_getElem? (i := 851) (by decide +kernel)) rfl⟩
theorem yk_X6_mayFeed : Yok yX6_mayFeed cX6_mayFeed 3 (some .boolean) 2 := ⟨in_g (List.mem_of_getElem? (i := 884) (by decide +kernel)) rfl, in_g (List.mem_of_getElem? (i := 71) (by decide +kernel)) rfl, by decide +kernel, by decide +kernel⟩
theorem yv_X6_mayFeed : YV yX6_mayFeed := ⟨in_g (List.mem_of_getElem? (i := 883) (by decide +kernel)) rfl, in_g (List.mem_of_getElem? (i := 28) (by decide +kernel)) rfl⟩
theorem yk_X6_feeds : Yok yX6_feeds cX6_feeds 4 (some .int) 2 := ⟨in_g (List.mem_of_getElem? (i := 880) (by decide +kernel)) rfl, in_g (List.mem_of_getElem? (i := 71) (by decide +kernel)) rfl, by decide +kernel, by decide +kernel⟩
theorem yv_X6_feeds : YV yX6_feeds := ⟨in_g (List.mem_of_getElem? (i := 878) (by decide +kernel)) rfl, in_g (List.mem_of_getElem? (i := 879) (by decide +kernel)) rfl⟩
theorem yk_X6_isLineTold : Yok yX6_isLineTold cX6_isLineTold 5 (some .boolean) 4 := ⟨in_g (List.mem_of_getElem? (i := 898) (by decide +kernel)) rfl, in_g (List.mem_of_getElem? (i := 71) (by decide +kernel)) rfl, by decide +kernel, by decide +kernel⟩
theorem yv_X6_isLineTold : YV yX6_isLineTold := ⟨in_g (List.mem_of_getElem? (i := 897) (by decide +kernel)) rfl, in_g (List.mem_of_getElem? (i := 30) (by decide +kernel)) rfl⟩
theorem yk_X6_lineNow : Yok yX6_lineNow cX6_lineNow 6 (some .int) 4 := ⟨in_g (List.mem_of_getElem? (i := 904) (by decide +kernel)) rfl, in_g (List.mem_of_getElem? (i := 71) (by decide +kernel)) rfl, by decide +kernel, by decide +kernel⟩
theorem yv_X6_lineNow : YV yX6_lineNow := ⟨in_g (List.mem_of_getElem? (i := 903) (by decide +kernel)) rfl, in_g (List.mem_of_getElem? (i := 31) (by decide +kernel)) rfl⟩
theorem yk_X6_line : Yok yX6_line cX6_line 5 (some .int) 4 := ⟨in_g (List.mem_of_getElem? (i := 894) (by decide +kernel)) rfl, in_g (List.mem_of_getElem? (i := 71) (by decide +kernel)) rfl, by decide +kernel, by decide +kernel⟩
theorem yv_X6_line : YV yX6_line := ⟨in_g (List.mem_of_getElem? (i := 892) (by decide +kernel)) rfl, in_g (List.mem_of_getElem? (i := 893) (by decide +kernel)) rfl⟩
theorem yk_X6_dropsNow : Yok yX6_dropsNow cX6_dropsNow 3 (some .int) 1 := ⟨in_g (List.mem_of_getElem? (i := 916) (by decide +kernel)) rfl, in_g (List.mem_of_getElem? (i := 71) (by decide +kernel)) rfl, by decide +kernel, by decide +kernel⟩
theorem yv_X6_dropsNow : YV yX6_dropsNow := ⟨in_g (List.mem_of_getElem? (i := 915) (by decide +kernel)) rfl, in_g (List.mem_of_getElem? (i := 33) (by decide +kernel)) rfl⟩
theorem yk_X6_drops : Yok yX6_drops cX6_drops 2 (some .int) 1 := ⟨in_g (List.mem_of_getElem? (i := 908) (by decide +kernel)) rfl, in_g (List.mem_of_getElem? (i := 71) (by decide +kernel)) rfl, by decide +kernel, by decide +kernel⟩
theorem yv_X6_drops : YV yX6_drops := ⟨in_g (List.mem_of_getElem? (i := 906) (by decide +kernel)) rfl, in_g (List.mem_of_getElem? (i := 907) (by decide +kernel)) rfl⟩
theorem yk_X6_becomes : Yok yX6_becomes cX6_becomes 5 (some .int) 3 := ⟨in_g (List.mem_of_getElem? (i := 924) (by decide +kernel)) rfl, in_g (List.mem_of_getElem? (i := 71) (by decide +kernel)) rfl, by decide +kernel, by decide +kernel⟩
theorem yv_X6_becomes : YV yX6_becomes := ⟨in_g (List.mem_of_getElem? (i := 923) (by decide +kernel)) rfl, in_g (List.mem_of_getElem? (i := 34) (by decide +kernel)) rfl⟩
theorem yk_X6_switches : Yok yX6_switches cX6_switches 3 (some .int) 2 := ⟨in_g (List.mem_of_getElem? (i := 920) (by decide +kernel)) rfl, in_g (List.mem_of_getElem? (i := 71) (by decide +kernel)) rfl, by decide +kernel, by decide +kernel⟩
theorem yv_X6_switches : YV yX6_switches := ⟨in_g (List.mem_of_getElem? (i := 918) (by decide +kernel)) rfl, in_g (List.mem_of_getElem? (i := 919) (by decide +kernel)) rfl⟩
theorem yk_X6_maySet : Yok yX6_maySet cX6_maySet 4 (some .boolean) 3 := ⟨in_g (List.mem_of_getElem? (i := 936) (by decide +kernel)) rfl, in_g (List.mem_of_getElem? (i := 71) (by decide +kernel)) rfl, by decide +kernel, by decide +kernel⟩
theorem yv_X6_maySet : YV yX6_maySet := ⟨in_g (List.mem_of_getElem? (i := 935) (by decide +kernel)) rfl, in_g (List.mem_of_getElem? (i := 36) (by decide +kernel)) rfl⟩
theorem yk_X6_sets : Yok yX6_sets cX6_sets 4 (some .int) 3 := ⟨in_g (List.mem_of_getElem? (i := 932) (by decide +kernel)) rfl, in_g (List.mem_of_getElem? (i := 71) (by decide +kernel)) rfl, by decide +kernel, by decide +kernel⟩
theorem yv_X6_sets : YV yX6_sets := ⟨in_g (List.mem_of_getElem? (i := 930) (by decide +kernel)) rfl, in_g (List.mem_of_getElem? (i := 931) (by decide +kernel)) rfl⟩
theorem yk_X6_isBridge : Yok yX6_isBridge cX6_isBridge 2 (some .boolean) 1 := ⟨in_g (List.mem_of_getElem? (i := 944) (by decide +kernel)) rfl, in_g (List.mem_of_getElem? (i := 71) (by decide +kernel)) rfl, by decide +kernel, by decide +kernel⟩
theorem yv_X6_isBridge : YV yX6_isBridge := ⟨in_g (List.mem_of_getElem? (i := 943) (by decide +kernel)) rfl, in_g (List.mem_of_getElem? (i := 37) (by decide +kernel)) rfl⟩
theorem yk_X6_of : Yok yX6_of cX6_of 3 (some .int) 2 := ⟨in_g (List.mem_of_getElem? (i := 940) (by decide +kernel)) rfl, in_g (List.mem_of_getElem? (i := 71) (by decide +kernel)) rfl, by decide +kernel, by decide +kernel⟩
theorem yv_X6_of : YV yX6_of := ⟨in_g (List.mem_of_getElem? (i := 938) (by decide +kernel)) rfl, in_g (List.mem_of_getElem? (i := 939) (by decide +kernel)) rfl⟩
theorem yk_X6_flow : Yok yX6_flow cX6_flow 3 (some .long) 2 := ⟨in_g (List.mem_of_getElem? (i := 963) (by decide +kernel)) rfl, in_g (List.mem_of_getElem? (i := 71) (by decide +kernel)) rfl, by decide +kernel, by decide +kernel⟩
theorem yv_X6_flow : YV yX6_flow := ⟨in_g (List.mem_of_getElem? (i := 961) (by decide +kernel)) rfl, in_g (List.mem_of_getElem? (i := 962) (by decide +kernel)) rfl⟩
theorem yk_X6_angle : Yok yX6_angle cX6_angle 3 (some .long) 2 := ⟨in_g (List.mem_of_getElem? (i := 1009) (by decide +kernel)) rfl, in_g (List.mem_of_getElem? (i := 71) (by decide +kernel)) rfl, by decide +kernel, by decide +kernel⟩
theorem yv_X6_angle : YV yX6_angle := ⟨in_g (List.mem_of_getElem? (i := 1007) (by decide +kernel)) rfl, in_g (List.mem_of_getElem? (i := 1008) (by decide +kernel)) rfl⟩
theorem yk_X6_factor : Yok yX6_factor cX6_factor 4 (some .long) 3 := ⟨in_g (List.mem_of_getElem? (i := 1013) (by decide +kernel)) rfl, in_g (List.mem_of_getElem? (i := 71) (by decide +kernel)) rfl, by decide +kernel, by decide +kernel⟩
theorem yv_X6_factor : YV yX6_factor := ⟨in_g (List.mem_of_getElem? (i := 1011) (by decide +kernel)) rfl, in_g (List.mem_of_getElem? (i := 1012) (by decide +kernel)) rfl⟩
theorem yk_X6_island : Yok yX6_island cX6_island 2 (some .int) 1 := ⟨in_g (List.mem_of_getElem? (i := 1022) (by decide +kernel)) rfl, in_g (List.mem_of_getElem? (i := 71) (by decide +kernel)) rfl, by decide +kernel, by decide +kernel⟩
theorem yv_X6_island : YV yX6_island := ⟨in_g (List.mem_of_getElem? (i := 1020) (by decide +kernel)) rfl, in_g (List.mem_of_getElem? (i := 1021) (by decide +kernel)) rfl⟩
theorem yk_X6_trees : Yok yX6_trees cX6_trees 2 (some .long) 1 := ⟨in_g (List.mem_of_getElem? (i := 1026) (by decide +kernel)) rfl, in_g (List.mem_of_getElem? (i := 71) (by decide +kernel)) rfl, by decide +kernel, by decide +kernel⟩
theorem yv_X6_trees : YV yX6_trees := ⟨in_g (List.mem_of_getElem? (i := 1024) (by decide +kernel)) rfl, in_g (List.mem_of_getElem? (i := 1025) (by decide +kernel)) rfl⟩
theorem yk_X6_fed : Yok yX6_fed cX6_fed 4 (some .int) 1 := ⟨in_g (List.mem_of_getElem? (i := 1030) (by decide +kernel)) rfl, in_g (List.mem_of_getElem? (i := 71) (by decide +kernel)) rfl, by decide +kernel, by decide +kernel⟩
theorem yv_X6_fed : YV yX6_fed := ⟨in_g (List.mem_of_getElem? (i := 1028) (by decide +kernel)) rfl, in_g (List.mem_of_getElem? (i := 1029) (by decide +kernel)) rfl⟩
theorem yk_X6_outage : Yok yX6_outage cX6_outage 4 (some .long) 3 := ⟨in_g (List.mem_of_getElem? (i := 1035) (by decide +kernel)) rfl, in_g (List.mem_of_getElem? (i := 71) (by decide +kernel)) rfl, by decide +kernel, by decide +kernel⟩
theorem yv_X6_outage : YV yX6_outage := ⟨in_g (List.mem_of_getElem? (i := 1033) (by decide +kernel)) rfl, in_g (List.mem_of_getElem? (i := 1034) (by decide +kernel)) rfl⟩
theorem yk_X6_spread : Yok yX6_spread cX6_spread 5 (some .long) 3 := ⟨in_g (List.mem_of_getElem? (i := 1039) (by decide +kernel)) rfl, in_g (List.mem_of_getElem? (i := 71) (by decide +kernel)) rfl, by decide +kernel, by decide +kernel⟩
theorem yv_X6_spread : YV yX6_spread := ⟨in_g (List.mem_of_getElem? (i := 1037) (by decide +kernel)) rfl, in_g (List.mem_of_getElem? (i := 1038) (by decide +kernel)) rfl⟩
theorem yk_X6_judges : Yok yX6_judges cX6_judges 9 none 1 := ⟨in_g (List.mem_of_getElem? (i := 1048) (by decide +kernel)) rfl, in_g (List.mem_of_getElem? (i := 71) (by decide +kernel)) rfl, by decide +kernel, by decide +kernel⟩
theorem yv_X6_judges : YV yX6_judges := ⟨in_g (List.mem_of_getElem? (i := 1047) (by decide +kernel)) rfl, in_g (List.mem_of_getElem? (i := 51) (by decide +kernel)) rfl⟩
theorem yk_X6_worst : Yok yX6_worst cX6_worst 3 (some .long) 2 := ⟨in_g (List.mem_of_getElem? (i := 1043) (by decide +kernel)) rfl, in_g (List.mem_of_getElem? (i := 71) (by decide +kernel)) rfl, by decide +kernel, by decide +kernel⟩
theorem yv_X6_worst : YV yX6_worst := ⟨in_g (List.mem_of_getElem? (i := 1041) (by decide +kernel)) rfl, in_g (List.mem_of_getElem? (i := 1042) (by decide +kernel)) rfl⟩
theorem yk_X6_ranks : Yok yX6_ranks cX6_ranks 4 none 2 := ⟨in_g (List.mem_of_getElem? (i := 1060) (by decide +kernel)) rfl, in_g (List.mem_of_getElem? (i := 71) (by decide +kernel)) rfl, by decide +kernel, by decide +kernel⟩
theorem yv_X6_ranks : YV yX6_ranks := ⟨in_g (List.mem_of_getElem? (i := 1059) (by decide +kernel)) rfl, in_g (List.mem_of_getElem? (i := 53) (by decide +kernel)) rfl⟩
theorem yk_X6_ranksAll : Yok yX6_ranksAll cX6_ranksAll 4 none 1 := ⟨in_g (List.mem_of_getElem? (i := 1056) (by decide +kernel)) rfl, in_g (List.mem_of_getElem? (i := 71) (by decide +kernel)) rfl, by decide +kernel, by decide +kernel⟩
theorem yv_X6_ranksAll : YV yX6_ranksAll := ⟨in_g (List.mem_of_getElem? (i := 1055) (by decide +kernel)) rfl, in_g (List.mem_of_getElem? (i := 52) (by decide +kernel)) rfl⟩
theorem yk_X6_ranked : Yok yX6_ranked cX6_ranked 2 (some .int) 1 := ⟨in_g (List.mem_of_getElem? (i := 1052) (by decide +kernel)) rfl, in_g (List.mem_of_getElem? (i := 71) (by decide +kernel)) rfl, by decide +kernel, by decide +kernel⟩
theorem yv_X6_ranked : YV yX6_ranked := ⟨in_g (List.mem_of_getElem? (i := 1050) (by decide +kernel)) rfl, in_g (List.mem_of_getElem? (i := 1051) (by decide +kernel)) rfl⟩
theorem yk_X6_pair : Yok yX6_pair cX6_pair 3 (some .long) 2 := ⟨in_g (List.mem_of_getElem? (i := 1064) (by decide +kernel)) rfl, in_g (List.mem_of_getElem? (i := 71) (by decide +kernel)) rfl, by decide +kernel, by decide +kernel⟩
theorem yv_X6_pair : YV yX6_pair := ⟨in_g (List.mem_of_getElem? (i := 1062) (by decide +kernel)) rfl, in_g (List.mem_of_getElem? (i := 1063) (by decide +kernel)) rfl⟩
theorem yk_X6_shift : Yok yX6_shift cX6_shift 6 (some .int) 1 := ⟨in_g (List.mem_of_getElem? (i := 1068) (by decide +kernel)) rfl, in_g (List.mem_of_getElem? (i := 71) (by decide +kernel)) rfl, by decide +kernel, by decide +kernel⟩
theorem yv_X6_shift : YV yX6_shift := ⟨in_g (List.mem_of_getElem? (i := 1066) (by decide +kernel)) rfl, in_g (List.mem_of_getElem? (i := 1067) (by decide +kernel)) rfl⟩
theorem yk_X6_carries : Yok yX6_carries cX6_carries 13 (some .int) 3 := ⟨in_g (List.mem_of_getElem? (i := 1076) (by decide +kernel)) rfl, in_g (List.mem_of_getElem? (i := 71) (by decide +kernel)) rfl, by decide +kernel, by decide +kernel⟩
theorem yv_X6_carries : YV yX6_carries := ⟨in_g (List.mem_of_getElem? (i := 1075) (by decide +kernel)) rfl, in_g (List.mem_of_getElem? (i := 54) (by decide +kernel)) rfl⟩
theorem yk_X6_transfer : Yok yX6_transfer cX6_transfer 7 (some .int) 3 := ⟨in_g (List.mem_of_getElem? (i := 1072) (by decide +kernel)) rfl, in_g (List.mem_of_getElem? (i := 71) (by decide +kernel)) rfl, by decide +kernel, by decide +kernel⟩
theorem yv_X6_transfer : YV yX6_transfer := ⟨in_g (List.mem_of_getElem? (i := 1070) (by decide +kernel)) rfl, in_g (List.mem_of_getElem? (i := 1071) (by decide +kernel)) rfl⟩
theorem yk_X6_countOf : Yok yX6_countOf cX6_countOf 4 (some .int) 1 := ⟨in_g (List.mem_of_getElem? (i := 1085) (by decide +kernel)) rfl, in_g (List.mem_of_getElem? (i := 71) (by decide +kernel)) rfl, by decide +kernel, by decide +kernel⟩
theorem yv_X6_countOf : YV yX6_countOf := ⟨in_g (List.mem_of_getElem? (i := 1084) (by decide +kernel)) rfl, in_g (List.mem_of_getElem? (i := 55) (by decide +kernel)) rfl⟩
theorem yk_X6_count : Yok yX6_count cX6_count 2 (some .int) 1 := ⟨in_g (List.mem_of_getElem? (i := 1081) (by decide +kernel)) rfl, in_g (List.mem_of_getElem? (i := 71) (by decide +kernel)) rfl, by decide +kernel, by decide +kernel⟩
theorem yv_X6_count : YV yX6_count := ⟨in_g (List.mem_of_getElem? (i := 1079) (by decide +kernel)) rfl, in_g (List.mem_of_getElem? (i := 1080) (by decide +kernel)) rfl⟩
theorem yk_X6_type : Yok yX6_type cX6_type 2 (some .int) 1 := ⟨in_g (List.mem_of_getElem? (i := 1089) (by decide +kernel)) rfl, in_g (List.mem_of_getElem? (i := 71) (by decide +kernel)) rfl, by decide +kernel, by decide +kernel⟩
theorem yv_X6_type : YV yX6_type := ⟨in_g (List.mem_of_getElem? (i := 1087) (by decide +kernel)) rfl, in_g (List.mem_of_getElem? (i := 1088) (by decide +kernel)) rfl⟩
theorem yk_X6_clear : Yok yX6_clear cX6_clear 2 (some .int) 0 := ⟨in_g (List.mem_of_getElem? (i := 1094) (by decide +kernel)) rfl, in_g (List.mem_of_getElem? (i := 71) (by decide +kernel)) rfl, by decide +kernel, by decide +kernel⟩
theorem yv_X6_clear : YV yX6_clear := ⟨in_g (List.mem_of_getElem? (i := 1092) (by decide +kernel)) rfl, in_g (List.mem_of_getElem? (i := 1093) (by decide +kernel)) rfl⟩
theorem yk_X6_here : Yok yX6_here cX6_here 1 (some .int) 0 := ⟨in_g (List.mem_of_getElem? (i := 1110) (by decide +kernel)) rfl, in_g (List.mem_of_getElem? (i := 71) (by decide +kernel)) rfl, by decide +kernel, by decide +kernel⟩
theorem yv_X6_here : YV yX6_here := ⟨in_g (List.mem_of_getElem? (i := 1109) (by decide +kernel)) rfl, in_g (List.mem_of_getElem? (i := 58) (by decide +kernel)) rfl⟩
theorem yk_X6_isLetter : Yok yX6_isLetter cX6_isLetter 2 (some .boolean) 1 := ⟨in_g (List.mem_of_getElem? (i := 1114) (by decide +kernel)) rfl, in_g (List.mem_of_getElem? (i := 71) (by decide +kernel)) rfl, by decide +kernel, by decide +kernel⟩
theorem yv_X6_isLetter : YV yX6_isLetter := ⟨in_g (List.mem_of_getElem? (i := 1113) (by decide +kernel)) rfl, in_g (List.mem_of_getElem? (i := 59) (by decide +kernel)) rfl⟩
theorem yk_X6_isFigure : Yok yX6_isFigure cX6_isFigure 2 (some .boolean) 1 := ⟨in_g (List.mem_of_getElem? (i := 1127) (by decide +kernel)) rfl, in_g (List.mem_of_getElem? (i := 71) (by decide +kernel)) rfl, by decide +kernel, by decide +kernel⟩
theorem yv_X6_isFigure : YV yX6_isFigure := ⟨in_g (List.mem_of_getElem? (i := 1126) (by decide +kernel)) rfl, in_g (List.mem_of_getElem? (i := 61) (by decide +kernel)) rfl⟩
theorem yk_X6_word : Yok yX6_word cX6_word 6 (some .int) 0 := ⟨in_g (List.mem_of_getElem? (i := 1106) (by decide +kernel)) rfl, in_g (List.mem_of_getElem? (i := 71) (by decide +kernel)) rfl, by decide +kernel, by decide +kernel⟩
theorem yv_X6_word : YV yX6_word := ⟨in_g (List.mem_of_getElem? (i := 1105) (by decide +kernel)) rfl, in_g (List.mem_of_getElem? (i := 57) (by decide +kernel)) rfl⟩
theorem yk_X6_number : Yok yX6_number cX6_number 6 (some .boolean) 2 := ⟨in_g (List.mem_of_getElem? (i := 1123) (by decide +kernel)) rfl, in_g (List.mem_of_getElem? (i := 71) (by decide +kernel)) rfl, by decide +kernel, by decide +kernel⟩
theorem yv_X6_number : YV yX6_number := ⟨in_g (List.mem_of_getElem? (i := 1122) (by decide +kernel)) rfl, in_g (List.mem_of_getElem? (i := 60) (by decide +kernel)) rfl⟩
theorem yk_X6_manyOf : Yok yX6_manyOf cX6_manyOf 1 (some .int) 1 := ⟨in_g (List.mem_of_getElem? (i := 1119) (by decide +kernel)) rfl, in_g (List.mem_of_getElem? (i := 71) (by decide +kernel)) rfl, by decide +kernel, by decide +kernel⟩
theorem ys_X6_manyOf : Cond.static yX6_manyOf ∈ lw_g := in_g (List.mem_of_getElem? (i := 1118) (by decide +kernel)) rfl
theorem yk_X6_isDone : Yok yX6_isDone cX6_isDone 5 (some .boolean) 1 := ⟨in_g (List.mem_of_getElem? (i := 1133) (by decide +kernel)) rfl, in_g (List.mem_of_getElem? (i := 71) (by decide +kernel)) rfl, by decide +kernel, by decide +kernel⟩
theorem yv_X6_isDone : YV yX6_isDone := ⟨in_g (List.mem_of_getElem? (i := 1132) (by decide +kernel)) rfl, in_g (List.mem_of_getElem? (i := 62) (by decide +kernel)) rfl⟩
theorem yk_X6_order : Yok yX6_order cX6_order 4 (some .int) 1 := ⟨in_g (List.mem_of_getElem? (i := 1102) (by decide +kernel)) rfl, in_g (List.mem_of_getElem? (i := 71) (by decide +kernel)) rfl, by decide +kernel, by decide +kernel⟩
theorem yv_X6_order : YV yX6_order := ⟨in_g (List.mem_of_getElem? (i := 1101) (by decide +kernel)) rfl, in_g (List.mem_of_getElem? (i := 56) (by decide +kernel)) rfl⟩
theorem yk_X6_does : Yok yX6_does cX6_does 3 (some .int) 0 := ⟨in_g (List.mem_of_getElem? (i := 1098) (by decide +kernel)) rfl, in_g (List.mem_of_getElem? (i := 71) (by decide +kernel)) rfl, by decide +kernel, by decide +kernel⟩
theorem yv_X6_does : YV yX6_does := ⟨in_g (List.mem_of_getElem? (i := 1096) (by decide +kernel)) rfl, in_g (List.mem_of_getElem? (i := 1097) (by decide +kernel)) rfl⟩
theorem yk_X6_back : Yok yX6_back cX6_back 2 (some .int) 0 := ⟨in_g (List.mem_of_getElem? (i := 1137) (by decide +kernel)) rfl, in_g (List.mem_of_getElem? (i := 71) (by decide +kernel)) rfl, by decide +kernel, by decide +kernel⟩
theorem yv_X6_back : YV yX6_back := ⟨in_g (List.mem_of_getElem? (i := 1135) (by decide +kernel)) rfl, in_g (List.mem_of_getElem? (i := 1136) (by decide +kernel)) rfl⟩
theorem yk_X6_toldOf : Yok yX6_toldOf cX6_toldOf 2 (some .int) 1 := ⟨in_g (List.mem_of_getElem? (i := 1145) (by decide +kernel)) rfl, in_g (List.mem_of_getElem? (i := 71) (by decide +kernel)) rfl, by decide +kernel, by decide +kernel⟩
theorem yv_X6_toldOf : YV yX6_toldOf := ⟨in_g (List.mem_of_getElem? (i := 1144) (by decide +kernel)) rfl, in_g (List.mem_of_getElem? (i := 63) (by decide +kernel)) rfl⟩
theorem yk_X6_told : Yok yX6_told cX6_told 2 (some .int) 1 := ⟨in_g (List.mem_of_getElem? (i := 1141) (by decide +kernel)) rfl, in_g (List.mem_of_getElem? (i := 71) (by decide +kernel)) rfl, by decide +kernel, by decide +kernel⟩
theorem yv_X6_told : YV yX6_told := ⟨in_g (List.mem_of_getElem? (i := 1139) (by decide +kernel)) rfl, in_g (List.mem_of_getElem? (i := 1140) (by decide +kernel)) rfl⟩
theorem yk_X6_digest : Yok yX6_digest cX6_digest 5 (some .long) 0 := ⟨in_g (List.mem_of_getElem? (i := 1149) (by decide +kernel)) rfl, in_g (List.mem_of_getElem? (i := 71) (by decide +kernel)) rfl, by decide +kernel, by decide +kernel⟩
theorem yv_X6_digest : YV yX6_digest := ⟨in_g (List.mem_of_getElem? (i := 1147) (by decide +kernel)) rfl, in_g (List.mem_of_getElem? (i := 1148) (by decide +kernel)) rfl⟩
theorem kc_X5_168 : Cond.constant RX5 168 (-99999 : Int32) ∈ lw_g := in_g (List.mem_of_getElem? (i := 479) (by decide +kernel)) rfl
theorem kc_X5_206 : Cond.constantLong RX5 206 (-1 : Int64) ∈ lw_g := in_g (List.mem_of_getElem? (i := 542) (by decide +kernel)) rfl
theorem kc_X4_122 : Cond.constantLong RX4 122 (9999 : Int64) ∈ lw_g := in_g (List.mem_of_getElem? (i := 562) (by decide +kernel)) rfl
theorem kc_X4_132 : Cond.constantLong RX4 132 (-1 : Int64) ∈ lw_g := in_g (List.mem_of_getElem? (i := 566) (by decide +kernel)) rfl
theorem kc_X5_297 : Cond.constantLong RX5 297 (1898 : Int64) ∈ lw_g := in_g (List.mem_of_getElem? (i := 747) (by decide +kernel)) rfl
theorem kc_X5_333 : Cond.constantLong RX5 333 (31 : Int64) ∈ lw_g := in_g (List.mem_of_getElem? (i := 752) (by decide +kernel)) rfl
theorem kc_X6_123 : Cond.constantLong RX6 123 (2 : Int64) ∈ lw_g := in_g (List.mem_of_getElem? (i := 856) (by decide +kernel)) rfl
theorem kc_X6_125 : Cond.constantLong RX6 125 (6 : Int64) ∈ lw_g := in_g (List.mem_of_getElem? (i := 857) (by decide +kernel)) rfl
theorem kc_X6_146 : Cond.constantLong RX6 146 (-99 : Int64) ∈ lw_g := in_g (List.mem_of_getElem? (i := 889) (by decide +kernel)) rfl
theorem kc_X6_148 : Cond.constantLong RX6 148 (99 : Int64) ∈ lw_g := in_g (List.mem_of_getElem? (i := 890) (by decide +kernel)) rfl
theorem kc_X6_153 : Cond.constantLong RX6 153 (5 : Int64) ∈ lw_g := in_g (List.mem_of_getElem? (i := 899) (by decide +kernel)) rfl
theorem kc_X6_155 : Cond.constantLong RX6 155 (999 : Int64) ∈ lw_g := in_g (List.mem_of_getElem? (i := 900) (by decide +kernel)) rfl
theorem kc_X6_111 : Cond.constantLong RX6 111 (-1 : Int64) ∈ lw_g := in_g (List.mem_of_getElem? (i := 1018) (by decide +kernel)) rfl
theorem kc_X6_199 : Cond.constant RX6 199 (-99999 : Int32) ∈ lw_g := in_g (List.mem_of_getElem? (i := 1031) (by decide +kernel)) rfl
theorem kc_X6_213 : Cond.constantLong RX6 213 (3 : Int64) ∈ lw_g := in_g (List.mem_of_getElem? (i := 1044) (by decide +kernel)) rfl
theorem kc_X6_230 : Cond.constantLong RX6 230 (9999 : Int64) ∈ lw_g := in_g (List.mem_of_getElem? (i := 1077) (by decide +kernel)) rfl
theorem kc_X6_238 : Cond.constantLong RX6 238 (127 : Int64) ∈ lw_g := in_g (List.mem_of_getElem? (i := 1090) (by decide +kernel)) rfl
theorem kc_X6_246 : Cond.constantLong RX6 246 (97 : Int64) ∈ lw_g := in_g (List.mem_of_getElem? (i := 1115) (by decide +kernel)) rfl
theorem kc_X6_248 : Cond.constantLong RX6 248 (122 : Int64) ∈ lw_g := in_g (List.mem_of_getElem? (i := 1116) (by decide +kernel)) rfl
theorem kc_X6_250 : Cond.constantLong RX6 250 (48 : Int64) ∈ lw_g := in_g (List.mem_of_getElem? (i := 1128) (by decide +kernel)) rfl
theorem kc_X6_252 : Cond.constantLong RX6 252 (57 : Int64) ∈ lw_g := in_g (List.mem_of_getElem? (i := 1129) (by decide +kernel)) rfl
theorem kc_X6_283 : Cond.constantLong RX6 283 (1898 : Int64) ∈ lw_g := in_g (List.mem_of_getElem? (i := 1150) (by decide +kernel)) rfl
theorem kc_X6_285 : Cond.constantLong RX6 285 (31 : Int64) ∈ lw_g := in_g (List.mem_of_getElem? (i := 1151) (by decide +kernel)) rfl
