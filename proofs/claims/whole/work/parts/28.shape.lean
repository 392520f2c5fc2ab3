/-! The shape of the world behind the constructors: printed by gen/shape.py. -/
def sh_K (o : Nat) : Nat := x_nth 99 [3, 4, 0, 5, 6, 7, 0, 0, 0, 0, 2, 7, 0, 0, 0, 0, 2, 8, 0, 8, 0, 10, 8, 0, 0, 0, 0, 2, 9, 0, 0, 11, 0, 0, 1, 0, 12, 0, 0, 0, 1, 0, 0, 1, 0, 0, 1, 0, 0, 1, 1, 0, 0, 0, 0, 1, 1, 0, 0, 0, 0, 1, 1, 0, 0, 0, 0, 0, 0, 1, 1, 2] o
def sh_L (o : Nat) : Nat := x_nth 0 [10, 2, 900, 4, 4, 13, 384, 64, 64, 81, 81, 13, 384, 64, 64, 81, 81, 3, 2000, 3, 2000, 10, 3, 2000, 65, 65, 65, 65, 10, 17, 17, 12, 540, 540, 540, 540, 56, 900, 384, 64, 81, 81, 81, 64, 486, 81, 81, 2000, 2000, 64, 64, 17, 17, 60, 60, 17, 60, 2400, 64, 64, 1400, 60, 64, 81, 64, 64, 720, 720, 11520, 720, 720, 1] o
def sh_R : List (Nat × Nat × Nat) := [(0, 0, 1), (0, 1, 3), (0, 2, 4), (0, 3, 21), (0, 4, 31), (1, 0, 2), (3, 0, 1), (4, 0, 1), (5, 6, 6), (5, 7, 7), (5, 8, 8), (5, 9, 9), (5, 10, 10), (11, 6, 12), (11, 7, 13), (11, 8, 14), (11, 9, 15), (11, 10, 16), (17, 0, 18), (19, 0, 20), (21, 0, 28), (21, 5, 22), (21, 6, 24), (21, 7, 25), (21, 8, 26), (21, 9, 27), (22, 0, 23), (28, 4, 29), (28, 5, 30), (31, 0, 32), (31, 1, 33), (31, 2, 34), (31, 3, 35), (36, 2, 37), (36, 8, 38), (36, 9, 39), (36, 12, 40), (36, 13, 41), (36, 14, 42), (36, 15, 43), (36, 21, 44), (36, 22, 45), (36, 23, 46), (36, 25, 47), (36, 27, 48), (36, 28, 49), (36, 29, 50), (36, 30, 51), (36, 31, 52), (36, 35, 53), (36, 36, 54), (36, 37, 55), (36, 38, 56), (36, 40, 57), (36, 41, 58), (36, 42, 59), (36, 44, 60), (36, 45, 61), (36, 46, 62), (36, 47, 63), (36, 48, 64), (36, 49, 65), (36, 51, 66), (36, 52, 67), (36, 53, 68), (36, 54, 69), (36, 55, 70)]
def SH (w : xW) : Prop := x_N w = 72 ∧ x_k w = sh_K ∧ x_l w = sh_L ∧ ∀ q ∈ sh_R, x_r w q.1 q.2.1 = q.2.2
/-- StreamRefuter.text -/
theorem sr0_0 {w : xW} (h : SH w) : x_r w 0 0 = 1 := h.2.2.2 (0, 0, 1) (List.mem_of_getElem? (i := 0) rfl)
/-- StreamRefuter.words -/
theorem sr0_1 {w : xW} (h : SH w) : x_r w 0 1 = 3 := h.2.2.2 (0, 1, 3) (List.mem_of_getElem? (i := 1) rfl)
/-- StreamRefuter.packedNumbers -/
theorem sr0_2 {w : xW} (h : SH w) : x_r w 0 2 = 4 := h.2.2.2 (0, 2, 4) (List.mem_of_getElem? (i := 2) rfl)
/-- StreamRefuter.refuter -/
theorem sr0_3 {w : xW} (h : SH w) : x_r w 0 3 = 21 := h.2.2.2 (0, 3, 21) (List.mem_of_getElem? (i := 3) rfl)
/-- StreamRefuter.judging -/
theorem sr0_4 {w : xW} (h : SH w) : x_r w 0 4 = 31 := h.2.2.2 (0, 4, 31) (List.mem_of_getElem? (i := 4) rfl)
/-- StreamRefuter$Text.bytes -/
theorem sr1_0 {w : xW} (h : SH w) : x_r w 1 0 = 2 := h.2.2.2 (1, 0, 2) (List.mem_of_getElem? (i := 5) rfl)
/-- StreamRefuter$Words.text -/
theorem sr3_0 {w : xW} (h : SH w) : x_r w 3 0 = 1 := h.2.2.2 (3, 0, 1) (List.mem_of_getElem? (i := 6) rfl)
/-- StreamRefuter$PackedNumbers.text -/
theorem sr4_0 {w : xW} (h : SH w) : x_r w 4 0 = 1 := h.2.2.2 (4, 0, 1) (List.mem_of_getElem? (i := 7) rfl)
/-- StreamRefuter$Problem.literals -/
theorem sr5_6 {w : xW} (h : SH w) : x_r w 5 6 = 6 := h.2.2.2 (5, 6, 6) (List.mem_of_getElem? (i := 8) rfl)
/-- StreamRefuter$Problem.lengths -/
theorem sr5_7 {w : xW} (h : SH w) : x_r w 5 7 = 7 := h.2.2.2 (5, 7, 7) (List.mem_of_getElem? (i := 9) rfl)
/-- StreamRefuter$Problem.sets -/
theorem sr5_8 {w : xW} (h : SH w) : x_r w 5 8 = 8 := h.2.2.2 (5, 8, 8) (List.mem_of_getElem? (i := 10) rfl)
/-- StreamRefuter$Problem.added -/
theorem sr5_9 {w : xW} (h : SH w) : x_r w 5 9 = 9 := h.2.2.2 (5, 9, 9) (List.mem_of_getElem? (i := 11) rfl)
/-- StreamRefuter$Problem.alive -/
theorem sr5_10 {w : xW} (h : SH w) : x_r w 5 10 = 10 := h.2.2.2 (5, 10, 10) (List.mem_of_getElem? (i := 12) rfl)
/-- StreamRefuter$Problem.literals -/
theorem sr11_6 {w : xW} (h : SH w) : x_r w 11 6 = 12 := h.2.2.2 (11, 6, 12) (List.mem_of_getElem? (i := 13) rfl)
/-- StreamRefuter$Problem.lengths -/
theorem sr11_7 {w : xW} (h : SH w) : x_r w 11 7 = 13 := h.2.2.2 (11, 7, 13) (List.mem_of_getElem? (i := 14) rfl)
/-- StreamRefuter$Problem.sets -/
theorem sr11_8 {w : xW} (h : SH w) : x_r w 11 8 = 14 := h.2.2.2 (11, 8, 14) (List.mem_of_getElem? (i := 15) rfl)
/-- StreamRefuter$Problem.added -/
theorem sr11_9 {w : xW} (h : SH w) : x_r w 11 9 = 15 := h.2.2.2 (11, 9, 15) (List.mem_of_getElem? (i := 16) rfl)
/-- StreamRefuter$Problem.alive -/
theorem sr11_10 {w : xW} (h : SH w) : x_r w 11 10 = 16 := h.2.2.2 (11, 10, 16) (List.mem_of_getElem? (i := 17) rfl)
/-- StreamRefuter$Tokens.row -/
theorem sr17_0 {w : xW} (h : SH w) : x_r w 17 0 = 18 := h.2.2.2 (17, 0, 18) (List.mem_of_getElem? (i := 18) rfl)
/-- StreamRefuter$Tokens.row -/
theorem sr19_0 {w : xW} (h : SH w) : x_r w 19 0 = 20 := h.2.2.2 (19, 0, 20) (List.mem_of_getElem? (i := 19) rfl)
/-- StreamRefuter$Refuter.propagation -/
theorem sr21_0 {w : xW} (h : SH w) : x_r w 21 0 = 28 := h.2.2.2 (21, 0, 28) (List.mem_of_getElem? (i := 20) rfl)
/-- StreamRefuter$Refuter.notes -/
theorem sr21_5 {w : xW} (h : SH w) : x_r w 21 5 = 22 := h.2.2.2 (21, 5, 22) (List.mem_of_getElem? (i := 21) rfl)
/-- StreamRefuter$Refuter.groupsFrom -/
theorem sr21_6 {w : xW} (h : SH w) : x_r w 21 6 = 24 := h.2.2.2 (21, 6, 24) (List.mem_of_getElem? (i := 22) rfl)
/-- StreamRefuter$Refuter.baseFrom -/
theorem sr21_7 {w : xW} (h : SH w) : x_r w 21 7 = 25 := h.2.2.2 (21, 7, 25) (List.mem_of_getElem? (i := 23) rfl)
/-- StreamRefuter$Refuter.baseTo -/
theorem sr21_8 {w : xW} (h : SH w) : x_r w 21 8 = 26 := h.2.2.2 (21, 8, 26) (List.mem_of_getElem? (i := 24) rfl)
/-- StreamRefuter$Refuter.lastUses -/
theorem sr21_9 {w : xW} (h : SH w) : x_r w 21 9 = 27 := h.2.2.2 (21, 9, 27) (List.mem_of_getElem? (i := 25) rfl)
/-- StreamRefuter$Tokens.row -/
theorem sr22_0 {w : xW} (h : SH w) : x_r w 22 0 = 23 := h.2.2.2 (22, 0, 23) (List.mem_of_getElem? (i := 26) rfl)
/-- StreamRefuter$Propagation.reasons -/
theorem sr28_4 {w : xW} (h : SH w) : x_r w 28 4 = 29 := h.2.2.2 (28, 4, 29) (List.mem_of_getElem? (i := 27) rfl)
/-- StreamRefuter$Propagation.gains -/
theorem sr28_5 {w : xW} (h : SH w) : x_r w 28 5 = 30 := h.2.2.2 (28, 5, 30) (List.mem_of_getElem? (i := 28) rfl)
/-- StreamRefuter$Judge.numbers -/
theorem sr31_0 {w : xW} (h : SH w) : x_r w 31 0 = 32 := h.2.2.2 (31, 0, 32) (List.mem_of_getElem? (i := 29) rfl)
/-- StreamRefuter$Judge.sets -/
theorem sr31_1 {w : xW} (h : SH w) : x_r w 31 1 = 33 := h.2.2.2 (31, 1, 33) (List.mem_of_getElem? (i := 30) rfl)
/-- StreamRefuter$Judge.known -/
theorem sr31_2 {w : xW} (h : SH w) : x_r w 31 2 = 34 := h.2.2.2 (31, 2, 34) (List.mem_of_getElem? (i := 31) rfl)
/-- StreamRefuter$Judge.namedByLine -/
theorem sr31_3 {w : xW} (h : SH w) : x_r w 31 3 = 35 := h.2.2.2 (31, 3, 35) (List.mem_of_getElem? (i := 32) rfl)
/-- StreamRefuterModel.text -/
theorem sr36_2 {w : xW} (h : SH w) : x_r w 36 2 = 37 := h.2.2.2 (36, 2, 37) (List.mem_of_getElem? (i := 33) rfl)
/-- StreamRefuterModel.lits -/
theorem sr36_8 {w : xW} (h : SH w) : x_r w 36 8 = 38 := h.2.2.2 (36, 8, 38) (List.mem_of_getElem? (i := 34) rfl)
/-- StreamRefuterModel.lens -/
theorem sr36_9 {w : xW} (h : SH w) : x_r w 36 9 = 39 := h.2.2.2 (36, 9, 39) (List.mem_of_getElem? (i := 35) rfl)
/-- StreamRefuterModel.adds -/
theorem sr36_12 {w : xW} (h : SH w) : x_r w 36 12 = 40 := h.2.2.2 (36, 12, 40) (List.mem_of_getElem? (i := 36) rfl)
/-- StreamRefuterModel.about -/
theorem sr36_13 {w : xW} (h : SH w) : x_r w 36 13 = 41 := h.2.2.2 (36, 13, 41) (List.mem_of_getElem? (i := 37) rfl)
/-- StreamRefuterModel.ways -/
theorem sr36_14 {w : xW} (h : SH w) : x_r w 36 14 = 42 := h.2.2.2 (36, 14, 42) (List.mem_of_getElem? (i := 38) rfl)
/-- StreamRefuterModel.marks -/
theorem sr36_15 {w : xW} (h : SH w) : x_r w 36 15 = 43 := h.2.2.2 (36, 15, 43) (List.mem_of_getElem? (i := 39) rfl)
/-- StreamRefuterModel.newLits -/
theorem sr36_21 {w : xW} (h : SH w) : x_r w 36 21 = 44 := h.2.2.2 (36, 21, 44) (List.mem_of_getElem? (i := 40) rfl)
/-- StreamRefuterModel.newLens -/
theorem sr36_22 {w : xW} (h : SH w) : x_r w 36 22 = 45 := h.2.2.2 (36, 22, 45) (List.mem_of_getElem? (i := 41) rfl)
/-- StreamRefuterModel.newAdds -/
theorem sr36_23 {w : xW} (h : SH w) : x_r w 36 23 = 46 := h.2.2.2 (36, 23, 46) (List.mem_of_getElem? (i := 42) rfl)
/-- StreamRefuterModel.tokens -/
theorem sr36_25 {w : xW} (h : SH w) : x_r w 36 25 = 47 := h.2.2.2 (36, 25, 47) (List.mem_of_getElem? (i := 43) rfl)
/-- StreamRefuterModel.newTokens -/
theorem sr36_27 {w : xW} (h : SH w) : x_r w 36 27 = 48 := h.2.2.2 (36, 27, 48) (List.mem_of_getElem? (i := 44) rfl)
/-- StreamRefuterModel.alive -/
theorem sr36_28 {w : xW} (h : SH w) : x_r w 36 28 = 49 := h.2.2.2 (36, 28, 49) (List.mem_of_getElem? (i := 45) rfl)
/-- StreamRefuterModel.marked -/
theorem sr36_29 {w : xW} (h : SH w) : x_r w 36 29 = 50 := h.2.2.2 (36, 29, 50) (List.mem_of_getElem? (i := 46) rfl)
/-- StreamRefuterModel.state -/
theorem sr36_30 {w : xW} (h : SH w) : x_r w 36 30 = 51 := h.2.2.2 (36, 30, 51) (List.mem_of_getElem? (i := 47) rfl)
/-- StreamRefuterModel.base -/
theorem sr36_31 {w : xW} (h : SH w) : x_r w 36 31 = 52 := h.2.2.2 (36, 31, 52) (List.mem_of_getElem? (i := 48) rfl)
/-- StreamRefuterModel.takenClause -/
theorem sr36_35 {w : xW} (h : SH w) : x_r w 36 35 = 53 := h.2.2.2 (36, 35, 53) (List.mem_of_getElem? (i := 49) rfl)
/-- StreamRefuterModel.takenVar -/
theorem sr36_36 {w : xW} (h : SH w) : x_r w 36 36 = 54 := h.2.2.2 (36, 36, 54) (List.mem_of_getElem? (i := 50) rfl)
/-- StreamRefuterModel.needVar -/
theorem sr36_37 {w : xW} (h : SH w) : x_r w 36 37 = 55 := h.2.2.2 (36, 37, 55) (List.mem_of_getElem? (i := 51) rfl)
/-- StreamRefuterModel.need -/
theorem sr36_38 {w : xW} (h : SH w) : x_r w 36 38 = 56 := h.2.2.2 (36, 38, 56) (List.mem_of_getElem? (i := 52) rfl)
/-- StreamRefuterModel.hint -/
theorem sr36_40 {w : xW} (h : SH w) : x_r w 36 40 = 57 := h.2.2.2 (36, 40, 57) (List.mem_of_getElem? (i := 53) rfl)
/-- StreamRefuterModel.hintFrom -/
theorem sr36_41 {w : xW} (h : SH w) : x_r w 36 41 = 58 := h.2.2.2 (36, 41, 58) (List.mem_of_getElem? (i := 54) rfl)
/-- StreamRefuterModel.hintLen -/
theorem sr36_42 {w : xW} (h : SH w) : x_r w 36 42 = 59 := h.2.2.2 (36, 42, 59) (List.mem_of_getElem? (i := 55) rfl)
/-- StreamRefuterModel.group -/
theorem sr36_44 {w : xW} (h : SH w) : x_r w 36 44 = 60 := h.2.2.2 (36, 44, 60) (List.mem_of_getElem? (i := 56) rfl)
/-- StreamRefuterModel.baseNeed -/
theorem sr36_45 {w : xW} (h : SH w) : x_r w 36 45 = 61 := h.2.2.2 (36, 45, 61) (List.mem_of_getElem? (i := 57) rfl)
/-- StreamRefuterModel.tried -/
theorem sr36_46 {w : xW} (h : SH w) : x_r w 36 46 = 62 := h.2.2.2 (36, 46, 62) (List.mem_of_getElem? (i := 58) rfl)
/-- StreamRefuterModel.newWays -/
theorem sr36_47 {w : xW} (h : SH w) : x_r w 36 47 = 63 := h.2.2.2 (36, 47, 63) (List.mem_of_getElem? (i := 59) rfl)
/-- StreamRefuterModel.line -/
theorem sr36_48 {w : xW} (h : SH w) : x_r w 36 48 = 64 := h.2.2.2 (36, 48, 64) (List.mem_of_getElem? (i := 60) rfl)
/-- StreamRefuterModel.lastUse -/
theorem sr36_49 {w : xW} (h : SH w) : x_r w 36 49 = 65 := h.2.2.2 (36, 49, 65) (List.mem_of_getElem? (i := 61) rfl)
/-- StreamRefuterModel.number -/
theorem sr36_51 {w : xW} (h : SH w) : x_r w 36 51 = 66 := h.2.2.2 (36, 51, 66) (List.mem_of_getElem? (i := 62) rfl)
/-- StreamRefuterModel.knownLen -/
theorem sr36_52 {w : xW} (h : SH w) : x_r w 36 52 = 67 := h.2.2.2 (36, 52, 67) (List.mem_of_getElem? (i := 63) rfl)
/-- StreamRefuterModel.knownLits -/
theorem sr36_53 {w : xW} (h : SH w) : x_r w 36 53 = 68 := h.2.2.2 (36, 53, 68) (List.mem_of_getElem? (i := 64) rfl)
/-- StreamRefuterModel.stays -/
theorem sr36_54 {w : xW} (h : SH w) : x_r w 36 54 = 69 := h.2.2.2 (36, 54, 69) (List.mem_of_getElem? (i := 65) rfl)
/-- StreamRefuterModel.named -/
theorem sr36_55 {w : xW} (h : SH w) : x_r w 36 55 = 70 := h.2.2.2 (36, 55, 70) (List.mem_of_getElem? (i := 66) rfl)
theorem sh_k {w : xW} (h : SH w) : x_k w = sh_K := h.2.1
theorem sh_l {w : xW} (h : SH w) : x_l w = sh_L := h.2.2.1
theorem sh_n {w : xW} (h : SH w) : x_N w = 72 := h.1
theorem kk0 : sh_K 0 = 3 := rfl
theorem kk1 : sh_K 1 = 4 := rfl
theorem kk2 : sh_K 2 = 0 := rfl
theorem ll2 : sh_L 2 = 900 := rfl
theorem kk3 : sh_K 3 = 5 := rfl
theorem kk4 : sh_K 4 = 6 := rfl
theorem kk5 : sh_K 5 = 7 := rfl
theorem kk6 : sh_K 6 = 0 := rfl
theorem ll6 : sh_L 6 = 384 := rfl
theorem kk7 : sh_K 7 = 0 := rfl
theorem ll7 : sh_L 7 = 64 := rfl
theorem kk8 : sh_K 8 = 0 := rfl
theorem ll8 : sh_L 8 = 64 := rfl
theorem kk9 : sh_K 9 = 0 := rfl
theorem ll9 : sh_L 9 = 81 := rfl
theorem kk10 : sh_K 10 = 2 := rfl
theorem ll10 : sh_L 10 = 81 := rfl
theorem kk11 : sh_K 11 = 7 := rfl
theorem kk12 : sh_K 12 = 0 := rfl
theorem ll12 : sh_L 12 = 384 := rfl
theorem kk13 : sh_K 13 = 0 := rfl
theorem ll13 : sh_L 13 = 64 := rfl
theorem kk14 : sh_K 14 = 0 := rfl
theorem ll14 : sh_L 14 = 64 := rfl
theorem kk15 : sh_K 15 = 0 := rfl
theorem ll15 : sh_L 15 = 81 := rfl
theorem kk16 : sh_K 16 = 2 := rfl
theorem ll16 : sh_L 16 = 81 := rfl
theorem kk17 : sh_K 17 = 8 := rfl
theorem kk18 : sh_K 18 = 0 := rfl
theorem ll18 : sh_L 18 = 2000 := rfl
theorem kk19 : sh_K 19 = 8 := rfl
theorem kk20 : sh_K 20 = 0 := rfl
theorem ll20 : sh_L 20 = 2000 := rfl
theorem kk21 : sh_K 21 = 10 := rfl
theorem kk22 : sh_K 22 = 8 := rfl
theorem kk23 : sh_K 23 = 0 := rfl
theorem ll23 : sh_L 23 = 2000 := rfl
theorem kk24 : sh_K 24 = 0 := rfl
theorem ll24 : sh_L 24 = 65 := rfl
theorem kk25 : sh_K 25 = 0 := rfl
theorem ll25 : sh_L 25 = 65 := rfl
theorem kk26 : sh_K 26 = 0 := rfl
theorem ll26 : sh_L 26 = 65 := rfl
theorem kk27 : sh_K 27 = 2 := rfl
theorem ll27 : sh_L 27 = 65 := rfl
theorem kk28 : sh_K 28 = 9 := rfl
theorem kk29 : sh_K 29 = 0 := rfl
theorem ll29 : sh_L 29 = 17 := rfl
theorem kk30 : sh_K 30 = 0 := rfl
theorem ll30 : sh_L 30 = 17 := rfl
theorem kk31 : sh_K 31 = 11 := rfl
theorem kk32 : sh_K 32 = 0 := rfl
theorem ll32 : sh_L 32 = 540 := rfl
theorem kk33 : sh_K 33 = 0 := rfl
theorem ll33 : sh_L 33 = 540 := rfl
theorem kk34 : sh_K 34 = 1 := rfl
theorem ll34 : sh_L 34 = 540 := rfl
theorem kk35 : sh_K 35 = 0 := rfl
theorem ll35 : sh_L 35 = 540 := rfl
theorem kk36 : sh_K 36 = 12 := rfl
theorem kk37 : sh_K 37 = 0 := rfl
theorem ll37 : sh_L 37 = 900 := rfl
theorem kk38 : sh_K 38 = 0 := rfl
theorem ll38 : sh_L 38 = 384 := rfl
theorem kk39 : sh_K 39 = 0 := rfl
theorem ll39 : sh_L 39 = 64 := rfl
theorem kk40 : sh_K 40 = 1 := rfl
theorem ll40 : sh_L 40 = 81 := rfl
theorem kk41 : sh_K 41 = 0 := rfl
theorem ll41 : sh_L 41 = 81 := rfl
theorem kk42 : sh_K 42 = 0 := rfl
theorem ll42 : sh_L 42 = 81 := rfl
theorem kk43 : sh_K 43 = 1 := rfl
theorem ll43 : sh_L 43 = 64 := rfl
theorem kk44 : sh_K 44 = 0 := rfl
theorem ll44 : sh_L 44 = 486 := rfl
theorem kk45 : sh_K 45 = 0 := rfl
theorem ll45 : sh_L 45 = 81 := rfl
theorem kk46 : sh_K 46 = 1 := rfl
theorem ll46 : sh_L 46 = 81 := rfl
theorem kk47 : sh_K 47 = 0 := rfl
theorem ll47 : sh_L 47 = 2000 := rfl
theorem kk48 : sh_K 48 = 0 := rfl
theorem ll48 : sh_L 48 = 2000 := rfl
theorem kk49 : sh_K 49 = 1 := rfl
theorem ll49 : sh_L 49 = 64 := rfl
theorem kk50 : sh_K 50 = 1 := rfl
theorem ll50 : sh_L 50 = 64 := rfl
theorem kk51 : sh_K 51 = 0 := rfl
theorem ll51 : sh_L 51 = 17 := rfl
theorem kk52 : sh_K 52 = 0 := rfl
theorem ll52 : sh_L 52 = 17 := rfl
theorem kk53 : sh_K 53 = 0 := rfl
theorem ll53 : sh_L 53 = 60 := rfl
theorem kk54 : sh_K 54 = 0 := rfl
theorem ll54 : sh_L 54 = 60 := rfl
theorem kk55 : sh_K 55 = 1 := rfl
theorem ll55 : sh_L 55 = 17 := rfl
theorem kk56 : sh_K 56 = 1 := rfl
theorem ll56 : sh_L 56 = 60 := rfl
theorem kk57 : sh_K 57 = 0 := rfl
theorem ll57 : sh_L 57 = 2400 := rfl
theorem kk58 : sh_K 58 = 0 := rfl
theorem ll58 : sh_L 58 = 64 := rfl
theorem kk59 : sh_K 59 = 0 := rfl
theorem ll59 : sh_L 59 = 64 := rfl
theorem kk60 : sh_K 60 = 0 := rfl
theorem ll60 : sh_L 60 = 1400 := rfl
theorem kk61 : sh_K 61 = 1 := rfl
theorem ll61 : sh_L 61 = 60 := rfl
theorem kk62 : sh_K 62 = 1 := rfl
theorem ll62 : sh_L 62 = 64 := rfl
theorem kk63 : sh_K 63 = 0 := rfl
theorem ll63 : sh_L 63 = 81 := rfl
theorem kk64 : sh_K 64 = 0 := rfl
theorem ll64 : sh_L 64 = 64 := rfl
theorem kk65 : sh_K 65 = 0 := rfl
theorem ll65 : sh_L 65 = 64 := rfl
theorem kk66 : sh_K 66 = 0 := rfl
theorem ll66 : sh_L 66 = 720 := rfl
theorem kk67 : sh_K 67 = 0 := rfl
theorem ll67 : sh_L 67 = 720 := rfl
theorem kk68 : sh_K 68 = 0 := rfl
theorem ll68 : sh_L 68 = 11520 := rfl
theorem kk69 : sh_K 69 = 1 := rfl
theorem ll69 : sh_L 69 = 720 := rfl
theorem kk70 : sh_K 70 = 1 := rfl
theorem ll70 : sh_L 70 = 720 := rfl
theorem kk71 : sh_K 71 = 2 := rfl
theorem ll71 : sh_L 71 = 1 := rfl
