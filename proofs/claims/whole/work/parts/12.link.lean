theorem lX1_3 : Cond.methodLink RX1 3 Lib.objectInit ∈ lw_tbl := tb1 (List.mem_of_getElem? (i := 34) rfl)
theorem pX1_9 : PLk RX1 9 1 0 2 (.array .byte) false := ⟨RX1, TX1, 7, tyX1, rfl, by decide, viX1, tb1 (List.mem_of_getElem? (i := 35) rfl), rfl, tyX1_ok, nmX1, rfl, (fun h => by first | rfl | (cases h)), by decide +kernel⟩
theorem pX1_15 : PLk RX1 15 1 1 0 .int false := ⟨RX1, TX1, 7, tyX1, rfl, by decide, viX1, tb1 (List.mem_of_getElem? (i := 38) rfl), rfl, tyX1_ok, nmX1, rfl, (fun h => by first | rfl | (cases h)), by decide +kernel⟩
theorem pX1_19 : PLk RX1 19 1 2 0 .int false := ⟨RX1, TX1, 7, tyX1, rfl, by decide, viX1, tb1 (List.mem_of_getElem? (i := 42) rfl), rfl, tyX1_ok, nmX1, rfl, (fun h => by first | rfl | (cases h)), by decide +kernel⟩
theorem pX1_22 : PLk RX1 22 1 3 0 .int false := ⟨RX1, TX1, 7, tyX1, rfl, by decide, viX1, tb1 (List.mem_of_getElem? (i := 46) rfl), rfl, tyX1_ok, nmX1, rfl, (fun h => by first | rfl | (cases h)), by decide +kernel⟩
theorem pX1_25 : PLk RX1 25 1 4 0 .int false := ⟨RX1, TX1, 7, tyX1, rfl, by decide, viX1, tb1 (List.mem_of_getElem? (i := 50) rfl), rfl, tyX1_ok, nmX1, rfl, (fun h => by first | rfl | (cases h)), by decide +kernel⟩
theorem pX1_28 : PLk RX1 28 1 5 0 .int false := ⟨RX1, TX1, 7, tyX1, rfl, by decide, viX1, tb1 (List.mem_of_getElem? (i := 53) rfl), rfl, tyX1_ok, nmX1, rfl, (fun h => by first | rfl | (cases h)), by decide +kernel⟩
theorem pX1_31 : PLk RX1 31 1 6 0 .int false := ⟨RX1, TX1, 7, tyX1, rfl, by decide, viX1, tb1 (List.mem_of_getElem? (i := 55) rfl), rfl, tyX1_ok, nmX1, rfl, (fun h => by first | rfl | (cases h)), by decide +kernel⟩
theorem lX2_3 : Cond.methodLink RX2 3 Lib.objectInit ∈ lw_tbl := tb1 (List.mem_of_getElem? (i := 78) rfl)
theorem pX2_11 : PLk RX2 11 2 1 2 (.array .int) true := ⟨RX2, TX2, 10, tyX2, rfl, by decide, viX2, tb1 (List.mem_of_getElem? (i := 80) rfl), rfl, tyX2_ok, nmX2, rfl, (fun h => by first | rfl | (cases h)), by decide +kernel⟩
theorem pX2_15 : PLk RX2 15 2 2 2 (.array .int) true := ⟨RX2, TX2, 10, tyX2, rfl, by decide, viX2, tb1 (List.mem_of_getElem? (i := 81) rfl), rfl, tyX2_ok, nmX2, rfl, (fun h => by first | rfl | (cases h)), by decide +kernel⟩
theorem pX2_18 : PLk RX2 18 2 3 2 (.array .long) true := ⟨RX2, TX2, 10, tyX2, rfl, by decide, viX2, tb1 (List.mem_of_getElem? (i := 82) rfl), rfl, tyX2_ok, nmX2, rfl, (fun h => by first | rfl | (cases h)), by decide +kernel⟩
theorem pX2_22 : PLk RX2 22 2 4 2 (.array .long) true := ⟨RX2, TX2, 10, tyX2, rfl, by decide, viX2, tb1 (List.mem_of_getElem? (i := 83) rfl), rfl, tyX2_ok, nmX2, rfl, (fun h => by first | rfl | (cases h)), by decide +kernel⟩
theorem pX2_25 : PLk RX2 25 2 5 2 (.array .byte) true := ⟨RX2, TX2, 10, tyX2, rfl, by decide, viX2, tb1 (List.mem_of_getElem? (i := 84) rfl), rfl, tyX2_ok, nmX2, rfl, (fun h => by first | rfl | (cases h)), by decide +kernel⟩
theorem pX2_29 : PLk RX2 29 2 6 0 .int false := ⟨RX2, TX2, 10, tyX2, rfl, by decide, viX2, tb1 (List.mem_of_getElem? (i := 85) rfl), rfl, tyX2_ok, nmX2, rfl, (fun h => by first | rfl | (cases h)), by decide +kernel⟩
theorem pX2_33 : PLk RX2 33 2 7 1 .long false := ⟨RX2, TX2, 10, tyX2, rfl, by decide, viX2, tb1 (List.mem_of_getElem? (i := 86) rfl), rfl, tyX2_ok, nmX2, rfl, (fun h => by first | rfl | (cases h)), by decide +kernel⟩
theorem pX2_37 : PLk RX2 37 2 8 1 .long false := ⟨RX2, TX2, 10, tyX2, rfl, by decide, viX2, tb1 (List.mem_of_getElem? (i := 87) rfl), rfl, tyX2_ok, nmX2, rfl, (fun h => by first | rfl | (cases h)), by decide +kernel⟩
theorem pX2_40 : PLk RX2 40 2 9 0 .byte false := ⟨RX2, TX2, 10, tyX2, rfl, by decide, viX2, tb1 (List.mem_of_getElem? (i := 88) rfl), rfl, tyX2_ok, nmX2, rfl, (fun h => by first | rfl | (cases h)), by decide +kernel⟩
theorem pX2_44 : PLk RX2 44 2 0 2 (.object "TreePress$Cursor") true := ⟨RX2, TX2, 10, tyX2, rfl, by decide, viX2, tb1 (List.mem_of_getElem? (i := 79) rfl), rfl, tyX2_ok, nmX2, rfl, (fun h => by first | rfl | (cases h)), by decide +kernel⟩
theorem lX10_3 : Cond.methodLink RX10 3 Lib.objectInit ∈ lw_tbl := tb1 (List.mem_of_getElem? (i := 117) rfl)
theorem pX10_9 : PLk RX10 9 10 1 0 .int false := ⟨RX10, TX10, 3, tyX10, rfl, by decide, viX10, tb1 (List.mem_of_getElem? (i := 119) rfl), rfl, tyX10_ok, nmX10, rfl, (fun h => by first | rfl | (cases h)), by decide +kernel⟩
theorem pX10_15 : PLk RX10 15 10 2 0 .int false := ⟨RX10, TX10, 3, tyX10, rfl, by decide, viX10, tb1 (List.mem_of_getElem? (i := 120) rfl), rfl, tyX10_ok, nmX10, rfl, (fun h => by first | rfl | (cases h)), by decide +kernel⟩
theorem pX10_18 : PLk RX10 18 10 0 2 (.object "TreePress$Cursor") true := ⟨RX10, TX10, 3, tyX10, rfl, by decide, viX10, tb1 (List.mem_of_getElem? (i := 118) rfl), rfl, tyX10_ok, nmX10, rfl, (fun h => by first | rfl | (cases h)), by decide +kernel⟩
theorem lX4_3 : Cond.methodLink RX4 3 Lib.objectInit ∈ lw_tbl := tb1 (List.mem_of_getElem? (i := 133) rfl)
theorem pX4_11 : PLk RX4 11 4 0 2 (.array .int) true := ⟨RX4, TX4, 4, tyX4, rfl, by decide, viX4, tb1 (List.mem_of_getElem? (i := 134) rfl), rfl, tyX4_ok, nmX4, rfl, (fun h => by first | rfl | (cases h)), by decide +kernel⟩
theorem pX4_15 : PLk RX4 15 4 1 2 (.array .int) true := ⟨RX4, TX4, 4, tyX4, rfl, by decide, viX4, tb1 (List.mem_of_getElem? (i := 135) rfl), rfl, tyX4_ok, nmX4, rfl, (fun h => by first | rfl | (cases h)), by decide +kernel⟩
theorem pX4_18 : PLk RX4 18 4 2 0 .int false := ⟨RX4, TX4, 4, tyX4, rfl, by decide, viX4, tb1 (List.mem_of_getElem? (i := 136) rfl), rfl, tyX4_ok, nmX4, rfl, (fun h => by first | rfl | (cases h)), by decide +kernel⟩
theorem pX4_22 : PLk RX4 22 4 3 0 .int false := ⟨RX4, TX4, 4, tyX4, rfl, by decide, viX4, tb1 (List.mem_of_getElem? (i := 137) rfl), rfl, tyX4_ok, nmX4, rfl, (fun h => by first | rfl | (cases h)), by decide +kernel⟩
theorem lX6_3 : Cond.methodLink RX6 3 Lib.objectInit ∈ lw_tbl := tb1 (List.mem_of_getElem? (i := 153) rfl)
theorem pX6_11 : PLk RX6 11 6 1 2 (.array .int) true := ⟨RX6, TX6, 11, tyX6, rfl, by decide, viX6, tb1 (List.mem_of_getElem? (i := 155) rfl), rfl, tyX6_ok, nmX6, rfl, (fun h => by first | rfl | (cases h)), by decide +kernel⟩
theorem pX6_15 : PLk RX6 15 6 2 2 (.array .int) true := ⟨RX6, TX6, 11, tyX6, rfl, by decide, viX6, tb1 (List.mem_of_getElem? (i := 157) rfl), rfl, tyX6_ok, nmX6, rfl, (fun h => by first | rfl | (cases h)), by decide +kernel⟩
theorem pX6_18 : PLk RX6 18 6 3 2 (.array .byte) true := ⟨RX6, TX6, 11, tyX6, rfl, by decide, viX6, tb1 (List.mem_of_getElem? (i := 159) rfl), rfl, tyX6_ok, nmX6, rfl, (fun h => by first | rfl | (cases h)), by decide +kernel⟩
theorem pX6_22 : PLk RX6 22 6 4 2 (.array .int) true := ⟨RX6, TX6, 11, tyX6, rfl, by decide, viX6, tb1 (List.mem_of_getElem? (i := 161) rfl), rfl, tyX6_ok, nmX6, rfl, (fun h => by first | rfl | (cases h)), by decide +kernel⟩
theorem pX6_25 : PLk RX6 25 6 5 2 (.array .int) true := ⟨RX6, TX6, 11, tyX6, rfl, by decide, viX6, tb1 (List.mem_of_getElem? (i := 163) rfl), rfl, tyX6_ok, nmX6, rfl, (fun h => by first | rfl | (cases h)), by decide +kernel⟩
theorem pX6_28 : PLk RX6 28 6 6 2 (.array .int) true := ⟨RX6, TX6, 11, tyX6, rfl, by decide, viX6, tb1 (List.mem_of_getElem? (i := 165) rfl), rfl, tyX6_ok, nmX6, rfl, (fun h => by first | rfl | (cases h)), by decide +kernel⟩
theorem pX6_31 : PLk RX6 31 6 7 2 (.array .int) true := ⟨RX6, TX6, 11, tyX6, rfl, by decide, viX6, tb1 (List.mem_of_getElem? (i := 167) rfl), rfl, tyX6_ok, nmX6, rfl, (fun h => by first | rfl | (cases h)), by decide +kernel⟩
theorem pX6_34 : PLk RX6 34 6 8 2 (.array .int) true := ⟨RX6, TX6, 11, tyX6, rfl, by decide, viX6, tb1 (List.mem_of_getElem? (i := 169) rfl), rfl, tyX6_ok, nmX6, rfl, (fun h => by first | rfl | (cases h)), by decide +kernel⟩
theorem pX6_37 : PLk RX6 37 6 9 0 .int false := ⟨RX6, TX6, 11, tyX6, rfl, by decide, viX6, tb1 (List.mem_of_getElem? (i := 171) rfl), rfl, tyX6_ok, nmX6, rfl, (fun h => by first | rfl | (cases h)), by decide +kernel⟩
theorem pX6_41 : PLk RX6 41 6 10 0 .boolean false := ⟨RX6, TX6, 11, tyX6, rfl, by decide, viX6, tb1 (List.mem_of_getElem? (i := 173) rfl), rfl, tyX6_ok, nmX6, rfl, (fun h => by first | rfl | (cases h)), by decide +kernel⟩
theorem pX6_45 : PLk RX6 45 6 0 2 (.object "TreePress$Cursor") true := ⟨RX6, TX6, 11, tyX6, rfl, by decide, viX6, tb1 (List.mem_of_getElem? (i := 154) rfl), rfl, tyX6_ok, nmX6, rfl, (fun h => by first | rfl | (cases h)), by decide +kernel⟩
theorem lX8_3 : Cond.methodLink RX8 3 Lib.objectInit ∈ lw_tbl := tb1 (List.mem_of_getElem? (i := 203) rfl)
theorem pX8_9 : PLk RX8 9 8 0 2 (.array .int) true := ⟨RX8, TX8, 6, tyX8, rfl, by decide, viX8, tb1 (List.mem_of_getElem? (i := 204) rfl), rfl, tyX8_ok, nmX8, rfl, (fun h => by first | rfl | (cases h)), by decide +kernel⟩
theorem pX8_15 : PLk RX8 15 8 1 0 .int false := ⟨RX8, TX8, 6, tyX8, rfl, by decide, viX8, tb1 (List.mem_of_getElem? (i := 206) rfl), rfl, tyX8_ok, nmX8, rfl, (fun h => by first | rfl | (cases h)), by decide +kernel⟩
theorem pX8_19 : PLk RX8 19 8 2 2 (.array .byte) false := ⟨RX8, TX8, 6, tyX8, rfl, by decide, viX8, tb1 (List.mem_of_getElem? (i := 208) rfl), rfl, tyX8_ok, nmX8, rfl, (fun h => by first | rfl | (cases h)), by decide +kernel⟩
theorem pX8_23 : PLk RX8 23 8 3 2 (.array .byte) false := ⟨RX8, TX8, 6, tyX8, rfl, by decide, viX8, tb1 (List.mem_of_getElem? (i := 209) rfl), rfl, tyX8_ok, nmX8, rfl, (fun h => by first | rfl | (cases h)), by decide +kernel⟩
theorem pX8_26 : PLk RX8 26 8 4 2 (.array .int) true := ⟨RX8, TX8, 6, tyX8, rfl, by decide, viX8, tb1 (List.mem_of_getElem? (i := 210) rfl), rfl, tyX8_ok, nmX8, rfl, (fun h => by first | rfl | (cases h)), by decide +kernel⟩
theorem pX8_29 : PLk RX8 29 8 5 0 .int false := ⟨RX8, TX8, 6, tyX8, rfl, by decide, viX8, tb1 (List.mem_of_getElem? (i := 211) rfl), rfl, tyX8_ok, nmX8, rfl, (fun h => by first | rfl | (cases h)), by decide +kernel⟩
theorem lX0_3 : Cond.methodLink RX0 3 Lib.objectInit ∈ lw_tbl := tb1 (List.mem_of_getElem? (i := 230) rfl)
theorem pX0_9 : PLk RX0 9 0 0 2 (.array .byte) true := ⟨RX0, TX0, 18, tyX0, rfl, by decide, viX0, tb1 (List.mem_of_getElem? (i := 231) rfl), rfl, tyX0_ok, nmX0, rfl, (fun h => by first | rfl | (cases h)), by decide +kernel⟩
theorem pX0_15 : PLk RX0 15 0 1 2 (.array .int) true := ⟨RX0, TX0, 18, tyX0, rfl, by decide, viX0, tb1 (List.mem_of_getElem? (i := 232) rfl), rfl, tyX0_ok, nmX0, rfl, (fun h => by first | rfl | (cases h)), by decide +kernel⟩
theorem pX0_19 : PLk RX0 19 0 2 2 (.array .int) true := ⟨RX0, TX0, 18, tyX0, rfl, by decide, viX0, tb1 (List.mem_of_getElem? (i := 233) rfl), rfl, tyX0_ok, nmX0, rfl, (fun h => by first | rfl | (cases h)), by decide +kernel⟩
theorem pX0_22 : PLk RX0 22 0 3 2 (.array .int) true := ⟨RX0, TX0, 18, tyX0, rfl, by decide, viX0, tb1 (List.mem_of_getElem? (i := 235) rfl), rfl, tyX0_ok, nmX0, rfl, (fun h => by first | rfl | (cases h)), by decide +kernel⟩
theorem pX0_25 : PLk RX0 25 0 4 2 (.array .int) true := ⟨RX0, TX0, 18, tyX0, rfl, by decide, viX0, tb1 (List.mem_of_getElem? (i := 237) rfl), rfl, tyX0_ok, nmX0, rfl, (fun h => by first | rfl | (cases h)), by decide +kernel⟩
theorem pX0_28 : PLk RX0 28 0 5 2 (.array .int) true := ⟨RX0, TX0, 18, tyX0, rfl, by decide, viX0, tb1 (List.mem_of_getElem? (i := 239) rfl), rfl, tyX0_ok, nmX0, rfl, (fun h => by first | rfl | (cases h)), by decide +kernel⟩
theorem pX0_31 : PLk RX0 31 0 6 2 (.array .int) true := ⟨RX0, TX0, 18, tyX0, rfl, by decide, viX0, tb2 (List.mem_of_getElem? (i := 1) rfl), rfl, tyX0_ok, nmX0, rfl, (fun h => by first | rfl | (cases h)), by decide +kernel⟩
theorem pX0_34 : PLk RX0 34 0 7 2 (.array .int) true := ⟨RX0, TX0, 18, tyX0, rfl, by decide, viX0, tb2 (List.mem_of_getElem? (i := 2) rfl), rfl, tyX0_ok, nmX0, rfl, (fun h => by first | rfl | (cases h)), by decide +kernel⟩
theorem pX0_37 : PLk RX0 37 0 8 2 (.array .int) true := ⟨RX0, TX0, 18, tyX0, rfl, by decide, viX0, tb2 (List.mem_of_getElem? (i := 3) rfl), rfl, tyX0_ok, nmX0, rfl, (fun h => by first | rfl | (cases h)), by decide +kernel⟩
theorem pX0_40 : PLk RX0 40 0 9 0 .int false := ⟨RX0, TX0, 18, tyX0, rfl, by decide, viX0, tb2 (List.mem_of_getElem? (i := 4) rfl), rfl, tyX0_ok, nmX0, rfl, (fun h => by first | rfl | (cases h)), by decide +kernel⟩
theorem pX0_44 : PLk RX0 44 0 10 0 .int false := ⟨RX0, TX0, 18, tyX0, rfl, by decide, viX0, tb2 (List.mem_of_getElem? (i := 5) rfl), rfl, tyX0_ok, nmX0, rfl, (fun h => by first | rfl | (cases h)), by decide +kernel⟩
theorem pX0_47 : PLk RX0 47 0 11 0 .int false := ⟨RX0, TX0, 18, tyX0, rfl, by decide, viX0, tb2 (List.mem_of_getElem? (i := 6) rfl), rfl, tyX0_ok, nmX0, rfl, (fun h => by first | rfl | (cases h)), by decide +kernel⟩
theorem pX0_50 : PLk RX0 50 0 12 0 .int false := ⟨RX0, TX0, 18, tyX0, rfl, by decide, viX0, tb2 (List.mem_of_getElem? (i := 7) rfl), rfl, tyX0_ok, nmX0, rfl, (fun h => by first | rfl | (cases h)), by decide +kernel⟩
theorem pX0_53 : PLk RX0 53 0 13 0 .int false := ⟨RX0, TX0, 18, tyX0, rfl, by decide, viX0, tb2 (List.mem_of_getElem? (i := 8) rfl), rfl, tyX0_ok, nmX0, rfl, (fun h => by first | rfl | (cases h)), by decide +kernel⟩
theorem pX0_56 : PLk RX0 56 0 14 0 .int false := ⟨RX0, TX0, 18, tyX0, rfl, by decide, viX0, tb2 (List.mem_of_getElem? (i := 9) rfl), rfl, tyX0_ok, nmX0, rfl, (fun h => by first | rfl | (cases h)), by decide +kernel⟩
theorem pX0_59 : PLk RX0 59 0 15 0 .int false := ⟨RX0, TX0, 18, tyX0, rfl, by decide, viX0, tb2 (List.mem_of_getElem? (i := 10) rfl), rfl, tyX0_ok, nmX0, rfl, (fun h => by first | rfl | (cases h)), by decide +kernel⟩
theorem pX0_62 : PLk RX0 62 0 16 0 .int false := ⟨RX0, TX0, 18, tyX0, rfl, by decide, viX0, tb2 (List.mem_of_getElem? (i := 11) rfl), rfl, tyX0_ok, nmX0, rfl, (fun h => by first | rfl | (cases h)), by decide +kernel⟩
theorem pX0_65 : PLk RX0 65 0 17 0 .int false := ⟨RX0, TX0, 18, tyX0, rfl, by decide, viX0, tb2 (List.mem_of_getElem? (i := 13) rfl), rfl, tyX0_ok, nmX0, rfl, (fun h => by first | rfl | (cases h)), by decide +kernel⟩
theorem lX5_3 : Cond.methodLink RX5 3 Lib.objectInit ∈ lw_tbl := tb2 (List.mem_of_getElem? (i := 63) rfl)
theorem pX5_9 : PLk RX5 9 5 0 2 (.array .byte) true := ⟨RX5, TX5, 8, tyX5, rfl, by decide, viX5, tb2 (List.mem_of_getElem? (i := 67) rfl), rfl, tyX5_ok, nmX5, rfl, (fun h => by first | rfl | (cases h)), by decide +kernel⟩
theorem pX5_15 : PLk RX5 15 5 1 2 (.array .int) true := ⟨RX5, TX5, 8, tyX5, rfl, by decide, viX5, tb2 (List.mem_of_getElem? (i := 69) rfl), rfl, tyX5_ok, nmX5, rfl, (fun h => by first | rfl | (cases h)), by decide +kernel⟩
theorem pX5_19 : PLk RX5 19 5 2 2 (.array .int) true := ⟨RX5, TX5, 8, tyX5, rfl, by decide, viX5, tb2 (List.mem_of_getElem? (i := 71) rfl), rfl, tyX5_ok, nmX5, rfl, (fun h => by first | rfl | (cases h)), by decide +kernel⟩
theorem pX5_22 : PLk RX5 22 5 3 2 (.array .int) true := ⟨RX5, TX5, 8, tyX5, rfl, by decide, viX5, tb2 (List.mem_of_getElem? (i := 73) rfl), rfl, tyX5_ok, nmX5, rfl, (fun h => by first | rfl | (cases h)), by decide +kernel⟩
theorem pX5_25 : PLk RX5 25 5 4 2 (.array .int) true := ⟨RX5, TX5, 8, tyX5, rfl, by decide, viX5, tb2 (List.mem_of_getElem? (i := 74) rfl), rfl, tyX5_ok, nmX5, rfl, (fun h => by first | rfl | (cases h)), by decide +kernel⟩
theorem pX5_28 : PLk RX5 28 5 5 2 (.array .int) true := ⟨RX5, TX5, 8, tyX5, rfl, by decide, viX5, tb2 (List.mem_of_getElem? (i := 75) rfl), rfl, tyX5_ok, nmX5, rfl, (fun h => by first | rfl | (cases h)), by decide +kernel⟩
theorem pX5_31 : PLk RX5 31 5 6 2 (.array .int) true := ⟨RX5, TX5, 8, tyX5, rfl, by decide, viX5, tb2 (List.mem_of_getElem? (i := 76) rfl), rfl, tyX5_ok, nmX5, rfl, (fun h => by first | rfl | (cases h)), by decide +kernel⟩
theorem pX5_34 : PLk RX5 34 5 7 0 .int false := ⟨RX5, TX5, 8, tyX5, rfl, by decide, viX5, tb2 (List.mem_of_getElem? (i := 77) rfl), rfl, tyX5_ok, nmX5, rfl, (fun h => by first | rfl | (cases h)), by decide +kernel⟩
theorem fX5_31 : FLk RX5 31 5 6 2 := ⟨RX5, TX5, 8, rfl, by decide, viX5, tb2 (List.mem_of_getElem? (i := 76) rfl), rfl⟩
theorem lX5_38 : Cond.methodLink RX5 38 yJ7_fill_53178 ∈ lw_tbl := tb2 (List.mem_of_getElem? (i := 64) rfl)
theorem lX9_3 : Cond.methodLink RX9 3 Lib.objectInit ∈ lw_tbl := tb2 (List.mem_of_getElem? (i := 100) rfl)
theorem pX9_11 : PLk RX9 11 9 0 2 (.array .int) true := ⟨RX9, TX9, 11, tyX9, rfl, by decide, viX9, tb2 (List.mem_of_getElem? (i := 101) rfl), rfl, tyX9_ok, nmX9, rfl, (fun h => by first | rfl | (cases h)), by decide +kernel⟩
theorem pX9_15 : PLk RX9 15 9 1 2 (.array .int) true := ⟨RX9, TX9, 11, tyX9, rfl, by decide, viX9, tb2 (List.mem_of_getElem? (i := 104) rfl), rfl, tyX9_ok, nmX9, rfl, (fun h => by first | rfl | (cases h)), by decide +kernel⟩
theorem pX9_18 : PLk RX9 18 9 2 2 (.array .int) true := ⟨RX9, TX9, 11, tyX9, rfl, by decide, viX9, tb2 (List.mem_of_getElem? (i := 106) rfl), rfl, tyX9_ok, nmX9, rfl, (fun h => by first | rfl | (cases h)), by decide +kernel⟩
theorem pX9_21 : PLk RX9 21 9 3 2 (.array .int) true := ⟨RX9, TX9, 11, tyX9, rfl, by decide, viX9, tb2 (List.mem_of_getElem? (i := 108) rfl), rfl, tyX9_ok, nmX9, rfl, (fun h => by first | rfl | (cases h)), by decide +kernel⟩
theorem pX9_24 : PLk RX9 24 9 4 2 (.array .int) true := ⟨RX9, TX9, 11, tyX9, rfl, by decide, viX9, tb2 (List.mem_of_getElem? (i := 110) rfl), rfl, tyX9_ok, nmX9, rfl, (fun h => by first | rfl | (cases h)), by decide +kernel⟩
theorem pX9_27 : PLk RX9 27 9 5 2 (.array .long) true := ⟨RX9, TX9, 11, tyX9, rfl, by decide, viX9, tb2 (List.mem_of_getElem? (i := 111) rfl), rfl, tyX9_ok, nmX9, rfl, (fun h => by first | rfl | (cases h)), by decide +kernel⟩
theorem pX9_31 : PLk RX9 31 9 6 2 (.array .long) true := ⟨RX9, TX9, 11, tyX9, rfl, by decide, viX9, tb2 (List.mem_of_getElem? (i := 112) rfl), rfl, tyX9_ok, nmX9, rfl, (fun h => by first | rfl | (cases h)), by decide +kernel⟩
theorem pX9_34 : PLk RX9 34 9 7 2 (.array .long) true := ⟨RX9, TX9, 11, tyX9, rfl, by decide, viX9, tb2 (List.mem_of_getElem? (i := 113) rfl), rfl, tyX9_ok, nmX9, rfl, (fun h => by first | rfl | (cases h)), by decide +kernel⟩
theorem pX9_37 : PLk RX9 37 9 8 2 (.array .long) true := ⟨RX9, TX9, 11, tyX9, rfl, by decide, viX9, tb2 (List.mem_of_getElem? (i := 116) rfl), rfl, tyX9_ok, nmX9, rfl, (fun h => by first | rfl | (cases h)), by decide +kernel⟩
theorem pX9_40 : PLk RX9 40 9 9 2 (.array .byte) true := ⟨RX9, TX9, 11, tyX9, rfl, by decide, viX9, tb2 (List.mem_of_getElem? (i := 119) rfl), rfl, tyX9_ok, nmX9, rfl, (fun h => by first | rfl | (cases h)), by decide +kernel⟩
theorem pX9_44 : PLk RX9 44 9 10 0 .int false := ⟨RX9, TX9, 11, tyX9, rfl, by decide, viX9, tb2 (List.mem_of_getElem? (i := 122) rfl), rfl, tyX9_ok, nmX9, rfl, (fun h => by first | rfl | (cases h)), by decide +kernel⟩
theorem lX7_3 : Cond.methodLink RX7 3 Lib.objectInit ∈ lw_tbl := tb2 (List.mem_of_getElem? (i := 155) rfl)
theorem pX7_11 : PLk RX7 11 7 0 2 (.array .int) true := ⟨RX7, TX7, 13, tyX7, rfl, by decide, viX7, tb2 (List.mem_of_getElem? (i := 156) rfl), rfl, tyX7_ok, nmX7, rfl, (fun h => by first | rfl | (cases h)), by decide +kernel⟩
theorem pX7_15 : PLk RX7 15 7 1 2 (.array .int) true := ⟨RX7, TX7, 13, tyX7, rfl, by decide, viX7, tb2 (List.mem_of_getElem? (i := 159) rfl), rfl, tyX7_ok, nmX7, rfl, (fun h => by first | rfl | (cases h)), by decide +kernel⟩
theorem pX7_18 : PLk RX7 18 7 2 2 (.array .int) true := ⟨RX7, TX7, 13, tyX7, rfl, by decide, viX7, tb2 (List.mem_of_getElem? (i := 161) rfl), rfl, tyX7_ok, nmX7, rfl, (fun h => by first | rfl | (cases h)), by decide +kernel⟩
theorem pX7_21 : PLk RX7 21 7 3 2 (.array .int) true := ⟨RX7, TX7, 13, tyX7, rfl, by decide, viX7, tb2 (List.mem_of_getElem? (i := 164) rfl), rfl, tyX7_ok, nmX7, rfl, (fun h => by first | rfl | (cases h)), by decide +kernel⟩
theorem pX7_24 : PLk RX7 24 7 4 2 (.array .int) true := ⟨RX7, TX7, 13, tyX7, rfl, by decide, viX7, tb2 (List.mem_of_getElem? (i := 166) rfl), rfl, tyX7_ok, nmX7, rfl, (fun h => by first | rfl | (cases h)), by decide +kernel⟩
theorem pX7_27 : PLk RX7 27 7 5 2 (.array .int) true := ⟨RX7, TX7, 13, tyX7, rfl, by decide, viX7, tb2 (List.mem_of_getElem? (i := 168) rfl), rfl, tyX7_ok, nmX7, rfl, (fun h => by first | rfl | (cases h)), by decide +kernel⟩
theorem pX7_30 : PLk RX7 30 7 6 2 (.array .int) true := ⟨RX7, TX7, 13, tyX7, rfl, by decide, viX7, tb2 (List.mem_of_getElem? (i := 171) rfl), rfl, tyX7_ok, nmX7, rfl, (fun h => by first | rfl | (cases h)), by decide +kernel⟩
theorem pX7_33 : PLk RX7 33 7 7 2 (.array .int) true := ⟨RX7, TX7, 13, tyX7, rfl, by decide, viX7, tb2 (List.mem_of_getElem? (i := 175) rfl), rfl, tyX7_ok, nmX7, rfl, (fun h => by first | rfl | (cases h)), by decide +kernel⟩
theorem pX7_36 : PLk RX7 36 7 8 2 (.array .int) true := ⟨RX7, TX7, 13, tyX7, rfl, by decide, viX7, tb2 (List.mem_of_getElem? (i := 179) rfl), rfl, tyX7_ok, nmX7, rfl, (fun h => by first | rfl | (cases h)), by decide +kernel⟩
theorem pX7_39 : PLk RX7 39 7 9 2 (.array .int) true := ⟨RX7, TX7, 13, tyX7, rfl, by decide, viX7, tb2 (List.mem_of_getElem? (i := 182) rfl), rfl, tyX7_ok, nmX7, rfl, (fun h => by first | rfl | (cases h)), by decide +kernel⟩
theorem pX7_42 : PLk RX7 42 7 10 2 (.array .int) true := ⟨RX7, TX7, 13, tyX7, rfl, by decide, viX7, tb2 (List.mem_of_getElem? (i := 184) rfl), rfl, tyX7_ok, nmX7, rfl, (fun h => by first | rfl | (cases h)), by decide +kernel⟩
theorem pX7_45 : PLk RX7 45 7 11 0 .int false := ⟨RX7, TX7, 13, tyX7, rfl, by decide, viX7, tb2 (List.mem_of_getElem? (i := 186) rfl), rfl, tyX7_ok, nmX7, rfl, (fun h => by first | rfl | (cases h)), by decide +kernel⟩
theorem pX7_49 : PLk RX7 49 7 12 0 .int false := ⟨RX7, TX7, 13, tyX7, rfl, by decide, viX7, tb2 (List.mem_of_getElem? (i := 190) rfl), rfl, tyX7_ok, nmX7, rfl, (fun h => by first | rfl | (cases h)), by decide +kernel⟩
theorem lX3_3 : Cond.methodLink RX3 3 Lib.objectInit ∈ lw_tbl := tb2 (List.mem_of_getElem? (i := 57) rfl)
theorem nX3_9 : NLk RX3 9 5 8 := ⟨RX5, TX5, tyX5, rfl, viX5, tyX5_ok, tb2 (List.mem_of_getElem? (i := 58) rfl), tb2 (List.mem_of_getElem? (i := 59) rfl), tb1 (List.mem_of_getElem? (i := 10) rfl), rfl, by decide +kernel⟩
theorem lX3_11 : Cond.methodLink RX3 11 yX5_init ∈ lw_tbl := tb2 (List.mem_of_getElem? (i := 60) rfl)
theorem pX3_12 : PLk RX3 12 3 0 2 (.object "TreePress$Names") true := ⟨RX3, TX3, 19, tyX3, rfl, by decide, viX3, tb2 (List.mem_of_getElem? (i := 218) rfl), rfl, tyX3_ok, nmX3, rfl, (fun h => by first | rfl | (cases h)), by decide +kernel⟩
theorem nX3_18 : NLk RX3 18 9 11 := ⟨RX9, TX9, tyX9, rfl, viX9, tyX9_ok, tb2 (List.mem_of_getElem? (i := 95) rfl), tb2 (List.mem_of_getElem? (i := 96) rfl), tb1 (List.mem_of_getElem? (i := 12) rfl), rfl, by decide +kernel⟩
theorem lX3_20 : (RX3, 20, yX9_init, "TreePress") ∈ nestT := by decide +kernel
theorem pX3_21 : PLk RX3 21 3 1 2 (.object "TreePress$Specs") true := ⟨RX3, TX3, 19, tyX3, rfl, by decide, viX3, tb2 (List.mem_of_getElem? (i := 224) rfl), rfl, tyX3_ok, nmX3, rfl, (fun h => by first | rfl | (cases h)), by decide +kernel⟩
theorem nX3_25 : NLk RX3 25 7 13 := ⟨RX7, TX7, tyX7, rfl, viX7, tyX7_ok, tb2 (List.mem_of_getElem? (i := 150) rfl), tb2 (List.mem_of_getElem? (i := 151) rfl), tb1 (List.mem_of_getElem? (i := 13) rfl), rfl, by decide +kernel⟩
theorem lX3_27 : (RX3, 27, yX7_init, "TreePress") ∈ nestT := by decide +kernel
theorem pX3_28 : PLk RX3 28 3 2 2 (.object "TreePress$Rules") true := ⟨RX3, TX3, 19, tyX3, rfl, by decide, viX3, tb2 (List.mem_of_getElem? (i := 228) rfl), rfl, tyX3_ok, nmX3, rfl, (fun h => by first | rfl | (cases h)), by decide +kernel⟩
theorem pX3_32 : PLk RX3 32 3 3 2 (.array .int) true := ⟨RX3, TX3, 19, tyX3, rfl, by decide, viX3, tb2 (List.mem_of_getElem? (i := 233) rfl), rfl, tyX3_ok, nmX3, rfl, (fun h => by first | rfl | (cases h)), by decide +kernel⟩
theorem pX3_36 : PLk RX3 36 3 4 2 (.array .int) true := ⟨RX3, TX3, 19, tyX3, rfl, by decide, viX3, tb2 (List.mem_of_getElem? (i := 237) rfl), rfl, tyX3_ok, nmX3, rfl, (fun h => by first | rfl | (cases h)), by decide +kernel⟩
theorem pX3_39 : PLk RX3 39 3 5 2 (.array .int) true := ⟨RX3, TX3, 19, tyX3, rfl, by decide, viX3, tb3 (List.mem_of_getElem? (i := 0) rfl), rfl, tyX3_ok, nmX3, rfl, (fun h => by first | rfl | (cases h)), by decide +kernel⟩
theorem pX3_42 : PLk RX3 42 3 6 2 (.array .int) true := ⟨RX3, TX3, 19, tyX3, rfl, by decide, viX3, tb3 (List.mem_of_getElem? (i := 6) rfl), rfl, tyX3_ok, nmX3, rfl, (fun h => by first | rfl | (cases h)), by decide +kernel⟩
theorem pX3_45 : PLk RX3 45 3 7 2 (.array .int) true := ⟨RX3, TX3, 19, tyX3, rfl, by decide, viX3, tb3 (List.mem_of_getElem? (i := 11) rfl), rfl, tyX3_ok, nmX3, rfl, (fun h => by first | rfl | (cases h)), by decide +kernel⟩
theorem pX3_48 : PLk RX3 48 3 8 2 (.array .int) true := ⟨RX3, TX3, 19, tyX3, rfl, by decide, viX3, tb3 (List.mem_of_getElem? (i := 13) rfl), rfl, tyX3_ok, nmX3, rfl, (fun h => by first | rfl | (cases h)), by decide +kernel⟩
theorem pX3_51 : PLk RX3 51 3 9 2 (.array .int) true := ⟨RX3, TX3, 19, tyX3, rfl, by decide, viX3, tb3 (List.mem_of_getElem? (i := 16) rfl), rfl, tyX3_ok, nmX3, rfl, (fun h => by first | rfl | (cases h)), by decide +kernel⟩
theorem pX3_54 : PLk RX3 54 3 10 2 (.array .int) true := ⟨RX3, TX3, 19, tyX3, rfl, by decide, viX3, tb3 (List.mem_of_getElem? (i := 20) rfl), rfl, tyX3_ok, nmX3, rfl, (fun h => by first | rfl | (cases h)), by decide +kernel⟩
theorem pX3_57 : PLk RX3 57 3 11 2 (.array .int) true := ⟨RX3, TX3, 19, tyX3, rfl, by decide, viX3, tb3 (List.mem_of_getElem? (i := 25) rfl), rfl, tyX3_ok, nmX3, rfl, (fun h => by first | rfl | (cases h)), by decide +kernel⟩
theorem pX3_60 : PLk RX3 60 3 12 2 (.array .byte) true := ⟨RX3, TX3, 19, tyX3, rfl, by decide, viX3, tb3 (List.mem_of_getElem? (i := 30) rfl), rfl, tyX3_ok, nmX3, rfl, (fun h => by first | rfl | (cases h)), by decide +kernel⟩
theorem pX3_64 : PLk RX3 64 3 13 2 (.array .byte) true := ⟨RX3, TX3, 19, tyX3, rfl, by decide, viX3, tb3 (List.mem_of_getElem? (i := 32) rfl), rfl, tyX3_ok, nmX3, rfl, (fun h => by first | rfl | (cases h)), by decide +kernel⟩
theorem pX3_67 : PLk RX3 67 3 14 0 .int false := ⟨RX3, TX3, 19, tyX3, rfl, by decide, viX3, tb3 (List.mem_of_getElem? (i := 34) rfl), rfl, tyX3_ok, nmX3, rfl, (fun h => by first | rfl | (cases h)), by decide +kernel⟩
theorem pX3_71 : PLk RX3 71 3 15 0 .int false := ⟨RX3, TX3, 19, tyX3, rfl, by decide, viX3, tb3 (List.mem_of_getElem? (i := 37) rfl), rfl, tyX3_ok, nmX3, rfl, (fun h => by first | rfl | (cases h)), by decide +kernel⟩
theorem pX3_74 : PLk RX3 74 3 16 0 .int false := ⟨RX3, TX3, 19, tyX3, rfl, by decide, viX3, tb3 (List.mem_of_getElem? (i := 39) rfl), rfl, tyX3_ok, nmX3, rfl, (fun h => by first | rfl | (cases h)), by decide +kernel⟩
theorem pX3_77 : PLk RX3 77 3 17 0 .int false := ⟨RX3, TX3, 19, tyX3, rfl, by decide, viX3, tb3 (List.mem_of_getElem? (i := 44) rfl), rfl, tyX3_ok, nmX3, rfl, (fun h => by first | rfl | (cases h)), by decide +kernel⟩
theorem pX3_80 : PLk RX3 80 3 18 0 .int false := ⟨RX3, TX3, 19, tyX3, rfl, by decide, viX3, tb3 (List.mem_of_getElem? (i := 48) rfl), rfl, tyX3_ok, nmX3, rfl, (fun h => by first | rfl | (cases h)), by decide +kernel⟩
theorem lX11_3 : Cond.methodLink RX11 3 Lib.objectInit ∈ lw_tbl := tb1 (List.mem_of_getElem? (i := 26) rfl)
theorem pX11_9 : PLk RX11 9 11 0 2 (.array .byte) true := ⟨RX11, TX11, 12, tyX11, rfl, by decide, viX11, tb3 (List.mem_of_getElem? (i := 90) rfl), rfl, tyX11_ok, nmX11, rfl, (fun h => by first | rfl | (cases h)), by decide +kernel⟩
theorem nX11_13 : NLk RX11 13 1 7 := ⟨RX1, TX1, tyX1, rfl, viX1, tyX1_ok, tb1 (List.mem_of_getElem? (i := 29) rfl), tb1 (List.mem_of_getElem? (i := 30) rfl), tb1 (List.mem_of_getElem? (i := 2) rfl), rfl, by decide +kernel⟩
theorem lX11_15 : (RX11, 15, yX1_init, "TreePress") ∈ nestT := by decide +kernel
theorem pX11_16 : PLk RX11 16 11 1 2 (.object "TreePress$Cursor") true := ⟨RX11, TX11, 12, tyX11, rfl, by decide, viX11, tb3 (List.mem_of_getElem? (i := 91) rfl), rfl, tyX11_ok, nmX11, rfl, (fun h => by first | rfl | (cases h)), by decide +kernel⟩
theorem nX11_20 : NLk RX11 20 2 10 := ⟨RX2, TX2, tyX2, rfl, viX2, tyX2_ok, tb1 (List.mem_of_getElem? (i := 73) rfl), tb1 (List.mem_of_getElem? (i := 74) rfl), tb1 (List.mem_of_getElem? (i := 3) rfl), rfl, by decide +kernel⟩
theorem fX11_16 : FLk RX11 16 11 1 2 := ⟨RX11, TX11, 12, rfl, by decide, viX11, tb3 (List.mem_of_getElem? (i := 91) rfl), rfl⟩
theorem lX11_22 : Cond.methodLink RX11 22 yX2_init ∈ lw_tbl := tb1 (List.mem_of_getElem? (i := 75) rfl)
theorem pX11_25 : PLk RX11 25 11 2 2 (.object "TreePress$DeclarationReader") true := ⟨RX11, TX11, 12, tyX11, rfl, by decide, viX11, tb3 (List.mem_of_getElem? (i := 92) rfl), rfl, tyX11_ok, nmX11, rfl, (fun h => by first | rfl | (cases h)), by decide +kernel⟩
theorem nX11_29 : NLk RX11 29 10 3 := ⟨RX10, TX10, tyX10, rfl, viX10, tyX10_ok, tb1 (List.mem_of_getElem? (i := 112) rfl), tb1 (List.mem_of_getElem? (i := 113) rfl), tb1 (List.mem_of_getElem? (i := 4) rfl), rfl, by decide +kernel⟩
theorem lX11_31 : Cond.methodLink RX11 31 yX10_init ∈ lw_tbl := tb1 (List.mem_of_getElem? (i := 114) rfl)
theorem pX11_32 : PLk RX11 32 11 3 2 (.object "TreePress$TreeReader") true := ⟨RX11, TX11, 12, tyX11, rfl, by decide, viX11, tb3 (List.mem_of_getElem? (i := 93) rfl), rfl, tyX11_ok, nmX11, rfl, (fun h => by first | rfl | (cases h)), by decide +kernel⟩
theorem nX11_36 : NLk RX11 36 4 4 := ⟨RX4, TX4, tyX4, rfl, viX4, tyX4_ok, tb1 (List.mem_of_getElem? (i := 128) rfl), tb1 (List.mem_of_getElem? (i := 129) rfl), tb1 (List.mem_of_getElem? (i := 5) rfl), rfl, by decide +kernel⟩
theorem lX11_38 : (RX11, 38, yX4_init, "TreePress") ∈ nestT := by decide +kernel
theorem pX11_39 : PLk RX11 39 11 4 2 (.object "TreePress$Judge") true := ⟨RX11, TX11, 12, tyX11, rfl, by decide, viX11, tb3 (List.mem_of_getElem? (i := 94) rfl), rfl, tyX11_ok, nmX11, rfl, (fun h => by first | rfl | (cases h)), by decide +kernel⟩
theorem nX11_43 : NLk RX11 43 6 11 := ⟨RX6, TX6, tyX6, rfl, viX6, tyX6_ok, tb1 (List.mem_of_getElem? (i := 148) rfl), tb1 (List.mem_of_getElem? (i := 149) rfl), tb1 (List.mem_of_getElem? (i := 6) rfl), rfl, by decide +kernel⟩
theorem lX11_45 : Cond.methodLink RX11 45 yX6_init ∈ lw_tbl := tb1 (List.mem_of_getElem? (i := 150) rfl)
theorem pX11_46 : PLk RX11 46 11 5 2 (.object "TreePress$Path") true := ⟨RX11, TX11, 12, tyX11, rfl, by decide, viX11, tb3 (List.mem_of_getElem? (i := 95) rfl), rfl, tyX11_ok, nmX11, rfl, (fun h => by first | rfl | (cases h)), by decide +kernel⟩
theorem nX11_50 : NLk RX11 50 8 6 := ⟨RX8, TX8, tyX8, rfl, viX8, tyX8_ok, tb1 (List.mem_of_getElem? (i := 198) rfl), tb1 (List.mem_of_getElem? (i := 199) rfl), tb1 (List.mem_of_getElem? (i := 7) rfl), rfl, by decide +kernel⟩
theorem lX11_52 : (RX11, 52, yX8_init, "TreePress") ∈ nestT := by decide +kernel
theorem pX11_53 : PLk RX11 53 11 6 2 (.object "TreePress$Selector") true := ⟨RX11, TX11, 12, tyX11, rfl, by decide, viX11, tb3 (List.mem_of_getElem? (i := 96) rfl), rfl, tyX11_ok, nmX11, rfl, (fun h => by first | rfl | (cases h)), by decide +kernel⟩
theorem nX11_57 : NLk RX11 57 0 18 := ⟨RX0, TX0, tyX0, rfl, viX0, tyX0_ok, tb1 (List.mem_of_getElem? (i := 225) rfl), tb1 (List.mem_of_getElem? (i := 226) rfl), tb1 (List.mem_of_getElem? (i := 8) rfl), rfl, by decide +kernel⟩
theorem lX11_59 : (RX11, 59, yX0_init, "TreePress") ∈ nestT := by decide +kernel
theorem pX11_60 : PLk RX11 60 11 7 2 (.object "TreePress$Composer") true := ⟨RX11, TX11, 12, tyX11, rfl, by decide, viX11, tb3 (List.mem_of_getElem? (i := 97) rfl), rfl, tyX11_ok, nmX11, rfl, (fun h => by first | rfl | (cases h)), by decide +kernel⟩
theorem nX11_64 : NLk RX11 64 3 19 := ⟨RX3, TX3, tyX3, rfl, viX3, tyX3_ok, tb2 (List.mem_of_getElem? (i := 52) rfl), tb2 (List.mem_of_getElem? (i := 53) rfl), tb1 (List.mem_of_getElem? (i := 9) rfl), rfl, by decide +kernel⟩
theorem lX11_66 : (RX11, 66, yX3_init, "TreePress") ∈ nestT := by decide +kernel
theorem pX11_67 : PLk RX11 67 11 8 2 (.object "TreePress$Doc") false := ⟨RX11, TX11, 12, tyX11, rfl, by decide, viX11, tb3 (List.mem_of_getElem? (i := 98) rfl), rfl, tyX11_ok, nmX11, rfl, (fun h => by first | rfl | (cases h)), by decide +kernel⟩
theorem pX11_71 : PLk RX11 71 11 9 2 (.object "TreePress$Doc") false := ⟨RX11, TX11, 12, tyX11, rfl, by decide, viX11, tb3 (List.mem_of_getElem? (i := 99) rfl), rfl, tyX11_ok, nmX11, rfl, (fun h => by first | rfl | (cases h)), by decide +kernel⟩
theorem pX11_74 : PLk RX11 74 11 10 0 .int false := ⟨RX11, TX11, 12, tyX11, rfl, by decide, viX11, tb3 (List.mem_of_getElem? (i := 100) rfl), rfl, tyX11_ok, nmX11, rfl, (fun h => by first | rfl | (cases h)), by decide +kernel⟩
theorem pX11_78 : PLk RX11 78 11 11 0 .int false := ⟨RX11, TX11, 12, tyX11, rfl, by decide, viX11, tb3 (List.mem_of_getElem? (i := 101) rfl), rfl, tyX11_ok, nmX11, rfl, (fun h => by first | rfl | (cases h)), by decide +kernel⟩
theorem lX12_1 : Cond.methodLink RX12 1 Lib.objectInit ∈ lw_tbl := tb6 (List.mem_of_getElem? (i := 150) rfl)
theorem pX12_7 : PLk RX12 7 12 0 2 (.array .byte) true := ⟨RX12, TX12, 102, tyX12, rfl, by decide, viX12, tb6 (List.mem_of_getElem? (i := 152) rfl), rfl, tyX12_ok, nmX12, rfl, (fun h => by first | rfl | (cases h)), by decide +kernel⟩
theorem pX12_13 : PLk RX12 13 12 2 2 (.array .byte) true := ⟨RX12, TX12, 102, tyX12, rfl, by decide, viX12, tb6 (List.mem_of_getElem? (i := 154) rfl), rfl, tyX12_ok, nmX12, rfl, (fun h => by first | rfl | (cases h)), by decide +kernel⟩
theorem pX12_16 : PLk RX12 16 12 6 0 .int false := ⟨RX12, TX12, 102, tyX12, rfl, by decide, viX12, tb6 (List.mem_of_getElem? (i := 158) rfl), rfl, tyX12_ok, nmX12, rfl, (fun h => by first | rfl | (cases h)), by decide +kernel⟩
theorem pX12_20 : PLk RX12 20 12 10 2 (.array .boolean) true := ⟨RX12, TX12, 102, tyX12, rfl, by decide, viX12, tb6 (List.mem_of_getElem? (i := 162) rfl), rfl, tyX12_ok, nmX12, rfl, (fun h => by first | rfl | (cases h)), by decide +kernel⟩
theorem pX12_24 : PLk RX12 24 12 11 2 (.array .byte) true := ⟨RX12, TX12, 102, tyX12, rfl, by decide, viX12, tb6 (List.mem_of_getElem? (i := 163) rfl), rfl, tyX12_ok, nmX12, rfl, (fun h => by first | rfl | (cases h)), by decide +kernel⟩
theorem pX12_27 : PLk RX12 27 12 12 2 (.array .int) true := ⟨RX12, TX12, 102, tyX12, rfl, by decide, viX12, tb6 (List.mem_of_getElem? (i := 164) rfl), rfl, tyX12_ok, nmX12, rfl, (fun h => by first | rfl | (cases h)), by decide +kernel⟩
theorem pX12_31 : PLk RX12 31 12 13 2 (.array .int) true := ⟨RX12, TX12, 102, tyX12, rfl, by decide, viX12, tb6 (List.mem_of_getElem? (i := 165) rfl), rfl, tyX12_ok, nmX12, rfl, (fun h => by first | rfl | (cases h)), by decide +kernel⟩
theorem pX12_34 : PLk RX12 34 12 14 2 (.array .int) true := ⟨RX12, TX12, 102, tyX12, rfl, by decide, viX12, tb6 (List.mem_of_getElem? (i := 166) rfl), rfl, tyX12_ok, nmX12, rfl, (fun h => by first | rfl | (cases h)), by decide +kernel⟩
theorem pX12_37 : PLk RX12 37 12 15 2 (.array .int) true := ⟨RX12, TX12, 102, tyX12, rfl, by decide, viX12, tb6 (List.mem_of_getElem? (i := 167) rfl), rfl, tyX12_ok, nmX12, rfl, (fun h => by first | rfl | (cases h)), by decide +kernel⟩
theorem pX12_40 : PLk RX12 40 12 16 2 (.array .int) true := ⟨RX12, TX12, 102, tyX12, rfl, by decide, viX12, tb6 (List.mem_of_getElem? (i := 168) rfl), rfl, tyX12_ok, nmX12, rfl, (fun h => by first | rfl | (cases h)), by decide +kernel⟩
theorem pX12_43 : PLk RX12 43 12 17 2 (.array .int) true := ⟨RX12, TX12, 102, tyX12, rfl, by decide, viX12, tb6 (List.mem_of_getElem? (i := 169) rfl), rfl, tyX12_ok, nmX12, rfl, (fun h => by first | rfl | (cases h)), by decide +kernel⟩
theorem pX12_46 : PLk RX12 46 12 18 2 (.array .int) true := ⟨RX12, TX12, 102, tyX12, rfl, by decide, viX12, tb6 (List.mem_of_getElem? (i := 170) rfl), rfl, tyX12_ok, nmX12, rfl, (fun h => by first | rfl | (cases h)), by decide +kernel⟩
theorem pX12_49 : PLk RX12 49 12 19 2 (.array .boolean) true := ⟨RX12, TX12, 102, tyX12, rfl, by decide, viX12, tb6 (List.mem_of_getElem? (i := 171) rfl), rfl, tyX12_ok, nmX12, rfl, (fun h => by first | rfl | (cases h)), by decide +kernel⟩
theorem pX12_52 : PLk RX12 52 12 20 2 (.array .boolean) true := ⟨RX12, TX12, 102, tyX12, rfl, by decide, viX12, tb6 (List.mem_of_getElem? (i := 172) rfl), rfl, tyX12_ok, nmX12, rfl, (fun h => by first | rfl | (cases h)), by decide +kernel⟩
theorem pX12_55 : PLk RX12 55 12 21 2 (.array .byte) true := ⟨RX12, TX12, 102, tyX12, rfl, by decide, viX12, tb6 (List.mem_of_getElem? (i := 173) rfl), rfl, tyX12_ok, nmX12, rfl, (fun h => by first | rfl | (cases h)), by decide +kernel⟩
theorem pX12_58 : PLk RX12 58 12 22 2 (.array .int) true := ⟨RX12, TX12, 102, tyX12, rfl, by decide, viX12, tb6 (List.mem_of_getElem? (i := 174) rfl), rfl, tyX12_ok, nmX12, rfl, (fun h => by first | rfl | (cases h)), by decide +kernel⟩
theorem pX12_61 : PLk RX12 61 12 23 2 (.array .int) true := ⟨RX12, TX12, 102, tyX12, rfl, by decide, viX12, tb6 (List.mem_of_getElem? (i := 175) rfl), rfl, tyX12_ok, nmX12, rfl, (fun h => by first | rfl | (cases h)), by decide +kernel⟩
theorem pX12_64 : PLk RX12 64 12 24 2 (.array .int) true := ⟨RX12, TX12, 102, tyX12, rfl, by decide, viX12, tb6 (List.mem_of_getElem? (i := 176) rfl), rfl, tyX12_ok, nmX12, rfl, (fun h => by first | rfl | (cases h)), by decide +kernel⟩
theorem pX12_67 : PLk RX12 67 12 25 2 (.array .int) true := ⟨RX12, TX12, 102, tyX12, rfl, by decide, viX12, tb6 (List.mem_of_getElem? (i := 177) rfl), rfl, tyX12_ok, nmX12, rfl, (fun h => by first | rfl | (cases h)), by decide +kernel⟩
theorem pX12_70 : PLk RX12 70 12 26 2 (.array .int) true := ⟨RX12, TX12, 102, tyX12, rfl, by decide, viX12, tb6 (List.mem_of_getElem? (i := 178) rfl), rfl, tyX12_ok, nmX12, rfl, (fun h => by first | rfl | (cases h)), by decide +kernel⟩
theorem pX12_73 : PLk RX12 73 12 27 2 (.array .int) true := ⟨RX12, TX12, 102, tyX12, rfl, by decide, viX12, tb6 (List.mem_of_getElem? (i := 179) rfl), rfl, tyX12_ok, nmX12, rfl, (fun h => by first | rfl | (cases h)), by decide +kernel⟩
theorem pX12_76 : PLk RX12 76 12 28 2 (.array .int) true := ⟨RX12, TX12, 102, tyX12, rfl, by decide, viX12, tb6 (List.mem_of_getElem? (i := 180) rfl), rfl, tyX12_ok, nmX12, rfl, (fun h => by first | rfl | (cases h)), by decide +kernel⟩
theorem pX12_79 : PLk RX12 79 12 29 2 (.array .int) true := ⟨RX12, TX12, 102, tyX12, rfl, by decide, viX12, tb6 (List.mem_of_getElem? (i := 181) rfl), rfl, tyX12_ok, nmX12, rfl, (fun h => by first | rfl | (cases h)), by decide +kernel⟩
theorem pX12_82 : PLk RX12 82 12 30 2 (.array .int) true := ⟨RX12, TX12, 102, tyX12, rfl, by decide, viX12, tb6 (List.mem_of_getElem? (i := 182) rfl), rfl, tyX12_ok, nmX12, rfl, (fun h => by first | rfl | (cases h)), by decide +kernel⟩
theorem pX12_85 : PLk RX12 85 12 31 2 (.array .int) true := ⟨RX12, TX12, 102, tyX12, rfl, by decide, viX12, tb6 (List.mem_of_getElem? (i := 183) rfl), rfl, tyX12_ok, nmX12, rfl, (fun h => by first | rfl | (cases h)), by decide +kernel⟩
theorem pX12_88 : PLk RX12 88 12 32 2 (.array .int) true := ⟨RX12, TX12, 102, tyX12, rfl, by decide, viX12, tb6 (List.mem_of_getElem? (i := 184) rfl), rfl, tyX12_ok, nmX12, rfl, (fun h => by first | rfl | (cases h)), by decide +kernel⟩
theorem pX12_91 : PLk RX12 91 12 33 2 (.array .long) true := ⟨RX12, TX12, 102, tyX12, rfl, by decide, viX12, tb6 (List.mem_of_getElem? (i := 185) rfl), rfl, tyX12_ok, nmX12, rfl, (fun h => by first | rfl | (cases h)), by decide +kernel⟩
theorem pX12_95 : PLk RX12 95 12 34 2 (.array .long) true := ⟨RX12, TX12, 102, tyX12, rfl, by decide, viX12, tb6 (List.mem_of_getElem? (i := 186) rfl), rfl, tyX12_ok, nmX12, rfl, (fun h => by first | rfl | (cases h)), by decide +kernel⟩
theorem pX12_98 : PLk RX12 98 12 35 2 (.array .boolean) true := ⟨RX12, TX12, 102, tyX12, rfl, by decide, viX12, tb6 (List.mem_of_getElem? (i := 187) rfl), rfl, tyX12_ok, nmX12, rfl, (fun h => by first | rfl | (cases h)), by decide +kernel⟩
theorem pX12_101 : PLk RX12 101 12 36 2 (.array .long) true := ⟨RX12, TX12, 102, tyX12, rfl, by decide, viX12, tb6 (List.mem_of_getElem? (i := 188) rfl), rfl, tyX12_ok, nmX12, rfl, (fun h => by first | rfl | (cases h)), by decide +kernel⟩
theorem pX12_104 : PLk RX12 104 12 37 2 (.array .int) true := ⟨RX12, TX12, 102, tyX12, rfl, by decide, viX12, tb6 (List.mem_of_getElem? (i := 189) rfl), rfl, tyX12_ok, nmX12, rfl, (fun h => by first | rfl | (cases h)), by decide +kernel⟩
theorem pX12_107 : PLk RX12 107 12 38 2 (.array .int) true := ⟨RX12, TX12, 102, tyX12, rfl, by decide, viX12, tb6 (List.mem_of_getElem? (i := 190) rfl), rfl, tyX12_ok, nmX12, rfl, (fun h => by first | rfl | (cases h)), by decide +kernel⟩
theorem pX12_110 : PLk RX12 110 12 39 2 (.array .int) true := ⟨RX12, TX12, 102, tyX12, rfl, by decide, viX12, tb6 (List.mem_of_getElem? (i := 191) rfl), rfl, tyX12_ok, nmX12, rfl, (fun h => by first | rfl | (cases h)), by decide +kernel⟩
theorem pX12_113 : PLk RX12 113 12 40 2 (.array .int) true := ⟨RX12, TX12, 102, tyX12, rfl, by decide, viX12, tb6 (List.mem_of_getElem? (i := 192) rfl), rfl, tyX12_ok, nmX12, rfl, (fun h => by first | rfl | (cases h)), by decide +kernel⟩
theorem pX12_116 : PLk RX12 116 12 41 2 (.array .int) true := ⟨RX12, TX12, 102, tyX12, rfl, by decide, viX12, tb6 (List.mem_of_getElem? (i := 193) rfl), rfl, tyX12_ok, nmX12, rfl, (fun h => by first | rfl | (cases h)), by decide +kernel⟩
theorem pX12_119 : PLk RX12 119 12 42 2 (.array .int) true := ⟨RX12, TX12, 102, tyX12, rfl, by decide, viX12, tb6 (List.mem_of_getElem? (i := 194) rfl), rfl, tyX12_ok, nmX12, rfl, (fun h => by first | rfl | (cases h)), by decide +kernel⟩
theorem pX12_122 : PLk RX12 122 12 43 2 (.array .int) true := ⟨RX12, TX12, 102, tyX12, rfl, by decide, viX12, tb6 (List.mem_of_getElem? (i := 195) rfl), rfl, tyX12_ok, nmX12, rfl, (fun h => by first | rfl | (cases h)), by decide +kernel⟩
theorem pX12_125 : PLk RX12 125 12 44 2 (.array .int) true := ⟨RX12, TX12, 102, tyX12, rfl, by decide, viX12, tb6 (List.mem_of_getElem? (i := 196) rfl), rfl, tyX12_ok, nmX12, rfl, (fun h => by first | rfl | (cases h)), by decide +kernel⟩
theorem pX12_128 : PLk RX12 128 12 45 2 (.array .int) true := ⟨RX12, TX12, 102, tyX12, rfl, by decide, viX12, tb6 (List.mem_of_getElem? (i := 197) rfl), rfl, tyX12_ok, nmX12, rfl, (fun h => by first | rfl | (cases h)), by decide +kernel⟩
theorem pX12_131 : PLk RX12 131 12 46 2 (.array .int) true := ⟨RX12, TX12, 102, tyX12, rfl, by decide, viX12, tb6 (List.mem_of_getElem? (i := 198) rfl), rfl, tyX12_ok, nmX12, rfl, (fun h => by first | rfl | (cases h)), by decide +kernel⟩
theorem pX12_134 : PLk RX12 134 12 47 2 (.array .int) true := ⟨RX12, TX12, 102, tyX12, rfl, by decide, viX12, tb6 (List.mem_of_getElem? (i := 199) rfl), rfl, tyX12_ok, nmX12, rfl, (fun h => by first | rfl | (cases h)), by decide +kernel⟩
theorem pX12_137 : PLk RX12 137 12 48 2 (.array .int) true := ⟨RX12, TX12, 102, tyX12, rfl, by decide, viX12, tb6 (List.mem_of_getElem? (i := 200) rfl), rfl, tyX12_ok, nmX12, rfl, (fun h => by first | rfl | (cases h)), by decide +kernel⟩
theorem pX12_140 : PLk RX12 140 12 49 2 (.array .int) true := ⟨RX12, TX12, 102, tyX12, rfl, by decide, viX12, tb6 (List.mem_of_getElem? (i := 201) rfl), rfl, tyX12_ok, nmX12, rfl, (fun h => by first | rfl | (cases h)), by decide +kernel⟩
theorem pX12_143 : PLk RX12 143 12 50 2 (.array .int) true := ⟨RX12, TX12, 102, tyX12, rfl, by decide, viX12, tb6 (List.mem_of_getElem? (i := 202) rfl), rfl, tyX12_ok, nmX12, rfl, (fun h => by first | rfl | (cases h)), by decide +kernel⟩
theorem pX12_146 : PLk RX12 146 12 54 2 (.array .int) true := ⟨RX12, TX12, 102, tyX12, rfl, by decide, viX12, tb6 (List.mem_of_getElem? (i := 205) rfl), rfl, tyX12_ok, nmX12, rfl, (fun h => by first | rfl | (cases h)), by decide +kernel⟩
theorem pX12_149 : PLk RX12 149 12 55 2 (.array .boolean) true := ⟨RX12, TX12, 102, tyX12, rfl, by decide, viX12, tb6 (List.mem_of_getElem? (i := 206) rfl), rfl, tyX12_ok, nmX12, rfl, (fun h => by first | rfl | (cases h)), by decide +kernel⟩
theorem pX12_152 : PLk RX12 152 12 56 2 (.array .boolean) true := ⟨RX12, TX12, 102, tyX12, rfl, by decide, viX12, tb6 (List.mem_of_getElem? (i := 207) rfl), rfl, tyX12_ok, nmX12, rfl, (fun h => by first | rfl | (cases h)), by decide +kernel⟩
theorem pX12_155 : PLk RX12 155 12 57 2 (.array .long) true := ⟨RX12, TX12, 102, tyX12, rfl, by decide, viX12, tb6 (List.mem_of_getElem? (i := 208) rfl), rfl, tyX12_ok, nmX12, rfl, (fun h => by first | rfl | (cases h)), by decide +kernel⟩
theorem pX12_158 : PLk RX12 158 12 58 2 (.array .long) true := ⟨RX12, TX12, 102, tyX12, rfl, by decide, viX12, tb6 (List.mem_of_getElem? (i := 209) rfl), rfl, tyX12_ok, nmX12, rfl, (fun h => by first | rfl | (cases h)), by decide +kernel⟩
theorem pX12_161 : PLk RX12 161 12 63 2 (.array .int) true := ⟨RX12, TX12, 102, tyX12, rfl, by decide, viX12, tb6 (List.mem_of_getElem? (i := 214) rfl), rfl, tyX12_ok, nmX12, rfl, (fun h => by first | rfl | (cases h)), by decide +kernel⟩
theorem pX12_164 : PLk RX12 164 12 66 2 (.array .int) true := ⟨RX12, TX12, 102, tyX12, rfl, by decide, viX12, tb6 (List.mem_of_getElem? (i := 217) rfl), rfl, tyX12_ok, nmX12, rfl, (fun h => by first | rfl | (cases h)), by decide +kernel⟩
theorem pX12_167 : PLk RX12 167 12 67 2 (.array .int) true := ⟨RX12, TX12, 102, tyX12, rfl, by decide, viX12, tb6 (List.mem_of_getElem? (i := 218) rfl), rfl, tyX12_ok, nmX12, rfl, (fun h => by first | rfl | (cases h)), by decide +kernel⟩
theorem pX12_170 : PLk RX12 170 12 69 2 (.array .int) true := ⟨RX12, TX12, 102, tyX12, rfl, by decide, viX12, tb6 (List.mem_of_getElem? (i := 220) rfl), rfl, tyX12_ok, nmX12, rfl, (fun h => by first | rfl | (cases h)), by decide +kernel⟩
theorem pX12_173 : PLk RX12 173 12 70 2 (.array .boolean) true := ⟨RX12, TX12, 102, tyX12, rfl, by decide, viX12, tb6 (List.mem_of_getElem? (i := 221) rfl), rfl, tyX12_ok, nmX12, rfl, (fun h => by first | rfl | (cases h)), by decide +kernel⟩
theorem pX12_176 : PLk RX12 176 12 71 2 (.array .boolean) true := ⟨RX12, TX12, 102, tyX12, rfl, by decide, viX12, tb6 (List.mem_of_getElem? (i := 222) rfl), rfl, tyX12_ok, nmX12, rfl, (fun h => by first | rfl | (cases h)), by decide +kernel⟩
theorem pX12_179 : PLk RX12 179 12 72 2 (.array .boolean) true := ⟨RX12, TX12, 102, tyX12, rfl, by decide, viX12, tb6 (List.mem_of_getElem? (i := 223) rfl), rfl, tyX12_ok, nmX12, rfl, (fun h => by first | rfl | (cases h)), by decide +kernel⟩
theorem pX12_182 : PLk RX12 182 12 73 2 (.array .int) true := ⟨RX12, TX12, 102, tyX12, rfl, by decide, viX12, tb6 (List.mem_of_getElem? (i := 224) rfl), rfl, tyX12_ok, nmX12, rfl, (fun h => by first | rfl | (cases h)), by decide +kernel⟩
theorem pX12_185 : PLk RX12 185 12 74 2 (.array .boolean) true := ⟨RX12, TX12, 102, tyX12, rfl, by decide, viX12, tb6 (List.mem_of_getElem? (i := 225) rfl), rfl, tyX12_ok, nmX12, rfl, (fun h => by first | rfl | (cases h)), by decide +kernel⟩
theorem pX12_188 : PLk RX12 188 12 75 2 (.array .int) true := ⟨RX12, TX12, 102, tyX12, rfl, by decide, viX12, tb6 (List.mem_of_getElem? (i := 226) rfl), rfl, tyX12_ok, nmX12, rfl, (fun h => by first | rfl | (cases h)), by decide +kernel⟩
theorem pX12_191 : PLk RX12 191 12 76 2 (.array .int) true := ⟨RX12, TX12, 102, tyX12, rfl, by decide, viX12, tb6 (List.mem_of_getElem? (i := 227) rfl), rfl, tyX12_ok, nmX12, rfl, (fun h => by first | rfl | (cases h)), by decide +kernel⟩
theorem pX12_194 : PLk RX12 194 12 77 2 (.array .int) true := ⟨RX12, TX12, 102, tyX12, rfl, by decide, viX12, tb6 (List.mem_of_getElem? (i := 228) rfl), rfl, tyX12_ok, nmX12, rfl, (fun h => by first | rfl | (cases h)), by decide +kernel⟩
theorem pX12_197 : PLk RX12 197 12 78 2 (.array .int) true := ⟨RX12, TX12, 102, tyX12, rfl, by decide, viX12, tb6 (List.mem_of_getElem? (i := 229) rfl), rfl, tyX12_ok, nmX12, rfl, (fun h => by first | rfl | (cases h)), by decide +kernel⟩
theorem pX12_200 : PLk RX12 200 12 79 2 (.array .int) true := ⟨RX12, TX12, 102, tyX12, rfl, by decide, viX12, tb6 (List.mem_of_getElem? (i := 230) rfl), rfl, tyX12_ok, nmX12, rfl, (fun h => by first | rfl | (cases h)), by decide +kernel⟩
theorem pX12_203 : PLk RX12 203 12 80 2 (.array .int) true := ⟨RX12, TX12, 102, tyX12, rfl, by decide, viX12, tb6 (List.mem_of_getElem? (i := 231) rfl), rfl, tyX12_ok, nmX12, rfl, (fun h => by first | rfl | (cases h)), by decide +kernel⟩
theorem pX12_206 : PLk RX12 206 12 81 2 (.array .boolean) true := ⟨RX12, TX12, 102, tyX12, rfl, by decide, viX12, tb6 (List.mem_of_getElem? (i := 232) rfl), rfl, tyX12_ok, nmX12, rfl, (fun h => by first | rfl | (cases h)), by decide +kernel⟩
theorem pX12_209 : PLk RX12 209 12 82 2 (.array .int) true := ⟨RX12, TX12, 102, tyX12, rfl, by decide, viX12, tb6 (List.mem_of_getElem? (i := 233) rfl), rfl, tyX12_ok, nmX12, rfl, (fun h => by first | rfl | (cases h)), by decide +kernel⟩
theorem pX12_212 : PLk RX12 212 12 83 2 (.array .int) true := ⟨RX12, TX12, 102, tyX12, rfl, by decide, viX12, tb6 (List.mem_of_getElem? (i := 234) rfl), rfl, tyX12_ok, nmX12, rfl, (fun h => by first | rfl | (cases h)), by decide +kernel⟩
theorem cX12_215 : Cond.constant RX12 215 (Int32.ofInt (240000)) ∈ lw_tbl := tb6 (List.mem_of_getElem? (i := 151) rfl)
theorem pX12_216 : PLk RX12 216 12 88 2 (.array .byte) true := ⟨RX12, TX12, 102, tyX12, rfl, by decide, viX12, tb6 (List.mem_of_getElem? (i := 239) rfl), rfl, tyX12_ok, nmX12, rfl, (fun h => by first | rfl | (cases h)), by decide +kernel⟩
theorem pX12_219 : PLk RX12 219 12 89 2 (.array .int) true := ⟨RX12, TX12, 102, tyX12, rfl, by decide, viX12, tb7 (List.mem_of_getElem? (i := 0) rfl), rfl, tyX12_ok, nmX12, rfl, (fun h => by first | rfl | (cases h)), by decide +kernel⟩
theorem pX12_222 : PLk RX12 222 12 90 2 (.array .int) true := ⟨RX12, TX12, 102, tyX12, rfl, by decide, viX12, tb7 (List.mem_of_getElem? (i := 1) rfl), rfl, tyX12_ok, nmX12, rfl, (fun h => by first | rfl | (cases h)), by decide +kernel⟩
theorem pX12_225 : PLk RX12 225 12 91 2 (.array .int) true := ⟨RX12, TX12, 102, tyX12, rfl, by decide, viX12, tb7 (List.mem_of_getElem? (i := 2) rfl), rfl, tyX12_ok, nmX12, rfl, (fun h => by first | rfl | (cases h)), by decide +kernel⟩
theorem pX12_228 : PLk RX12 228 12 92 2 (.array .int) true := ⟨RX12, TX12, 102, tyX12, rfl, by decide, viX12, tb7 (List.mem_of_getElem? (i := 3) rfl), rfl, tyX12_ok, nmX12, rfl, (fun h => by first | rfl | (cases h)), by decide +kernel⟩
theorem pX12_231 : PLk RX12 231 12 93 2 (.array .int) true := ⟨RX12, TX12, 102, tyX12, rfl, by decide, viX12, tb7 (List.mem_of_getElem? (i := 4) rfl), rfl, tyX12_ok, nmX12, rfl, (fun h => by first | rfl | (cases h)), by decide +kernel⟩
theorem pX12_234 : PLk RX12 234 12 94 2 (.array .int) true := ⟨RX12, TX12, 102, tyX12, rfl, by decide, viX12, tb7 (List.mem_of_getElem? (i := 5) rfl), rfl, tyX12_ok, nmX12, rfl, (fun h => by first | rfl | (cases h)), by decide +kernel⟩
theorem pX12_237 : PLk RX12 237 12 96 2 (.array .byte) true := ⟨RX12, TX12, 102, tyX12, rfl, by decide, viX12, tb7 (List.mem_of_getElem? (i := 7) rfl), rfl, tyX12_ok, nmX12, rfl, (fun h => by first | rfl | (cases h)), by decide +kernel⟩
theorem pX12_240 : PLk RX12 240 12 97 2 (.array .int) true := ⟨RX12, TX12, 102, tyX12, rfl, by decide, viX12, tb7 (List.mem_of_getElem? (i := 8) rfl), rfl, tyX12_ok, nmX12, rfl, (fun h => by first | rfl | (cases h)), by decide +kernel⟩
theorem pX12_243 : PLk RX12 243 12 101 2 (.array .int) true := ⟨RX12, TX12, 102, tyX12, rfl, by decide, viX12, tb7 (List.mem_of_getElem? (i := 12) rfl), rfl, tyX12_ok, nmX12, rfl, (fun h => by first | rfl | (cases h)), by decide +kernel⟩
theorem fX11_74 : FLk RX11 74 11 10 0 := ⟨RX11, TX11, 12, rfl, by decide, viX11, tb3 (List.mem_of_getElem? (i := 100) rfl), rfl⟩
theorem fX11_9 : FLk RX11 9 11 0 2 := ⟨RX11, TX11, 12, rfl, by decide, viX11, tb3 (List.mem_of_getElem? (i := 90) rfl), rfl⟩
theorem lX11_81 : Cond.methodLink RX11 81 yX11_keepNumber ∈ lw_tbl := tb3 (List.mem_of_getElem? (i := 131) rfl)
theorem fX12_476 : FLk RX12 476 12 1 0 := ⟨RX12, TX12, 102, rfl, by decide, viX12, tb6 (List.mem_of_getElem? (i := 153) rfl), rfl⟩
theorem fX12_7 : FLk RX12 7 12 0 2 := ⟨RX12, TX12, 102, rfl, by decide, viX12, tb6 (List.mem_of_getElem? (i := 152) rfl), rfl⟩
theorem pX12_476 : PLk RX12 476 12 1 0 .int false := ⟨RX12, TX12, 102, tyX12, rfl, by decide, viX12, tb6 (List.mem_of_getElem? (i := 153) rfl), rfl, tyX12_ok, nmX12, rfl, (fun h => by first | rfl | (cases h)), by decide +kernel⟩
theorem lX1_34 : Cond.methodLink RX1 34 Lib.Math.min.name ∈ lw_tbl := tb3 (List.mem_of_getElem? (i := 143) rfl)
theorem lX1_40 : Cond.methodLink RX1 40 Lib.Math.max.name ∈ lw_tbl := tb3 (List.mem_of_getElem? (i := 146) rfl)
theorem lX5_44 : Cond.methodLink RX5 44 Lib.Math.min.name ∈ lw_tbl := tb3 (List.mem_of_getElem? (i := 157) rfl)
theorem fX5_9 : FLk RX5 9 5 0 2 := ⟨RX5, TX5, 8, rfl, by decide, viX5, tb2 (List.mem_of_getElem? (i := 67) rfl), rfl⟩
theorem lX5_50 : Cond.methodLink RX5 50 Lib.Math.max.name ∈ lw_tbl := tb3 (List.mem_of_getElem? (i := 158) rfl)
theorem lX5_53 : Cond.methodLink RX5 53 arraycopyName ∈ lw_tbl := tb3 (List.mem_of_getElem? (i := 159) rfl)
theorem fX3_12 : FLk RX3 12 3 0 2 := ⟨RX3, TX3, 19, rfl, by decide, viX3, tb2 (List.mem_of_getElem? (i := 218) rfl), rfl⟩
theorem lX3_83 : Cond.methodLink RX3 83 yX5_begin ∈ lw_tbl := tb3 (List.mem_of_getElem? (i := 153) rfl)
theorem fX3_21 : FLk RX3 21 3 1 2 := ⟨RX3, TX3, 19, rfl, by decide, viX3, tb2 (List.mem_of_getElem? (i := 224) rfl), rfl⟩
theorem pX3_87 : PLk RX3 87 9 10 0 .int false := ⟨RX9, TX9, 11, tyX9, rfl, by decide, viX9, tb2 (List.mem_of_getElem? (i := 123) rfl), rfl, tyX9_ok, nmX9, rfl, (fun h => by first | rfl | (cases h)), by decide +kernel⟩
theorem fX3_28 : FLk RX3 28 3 2 2 := ⟨RX3, TX3, 19, rfl, by decide, viX3, tb2 (List.mem_of_getElem? (i := 228) rfl), rfl⟩
theorem lX3_88 : Cond.methodLink RX3 88 yX7_begin ∈ lw_tbl := tb3 (List.mem_of_getElem? (i := 162) rfl)
theorem fX1_19 : FLk RX1 19 1 2 0 := ⟨RX1, TX1, 7, rfl, by decide, viX1, tb1 (List.mem_of_getElem? (i := 42) rfl), rfl⟩
theorem fX1_15 : FLk RX1 15 1 1 0 := ⟨RX1, TX1, 7, rfl, by decide, viX1, tb1 (List.mem_of_getElem? (i := 38) rfl), rfl⟩
theorem fX1_9 : FLk RX1 9 1 0 2 := ⟨RX1, TX1, 7, rfl, by decide, viX1, tb1 (List.mem_of_getElem? (i := 35) rfl), rfl⟩
theorem lX1_61 : Cond.methodLink RX1 61 yX1_peek ∈ lw_tbl := tb3 (List.mem_of_getElem? (i := 174) rfl)
theorem lX1_64 : Cond.methodLink RX1 64 yX1_isSpace ∈ lw_tbl := tb3 (List.mem_of_getElem? (i := 178) rfl)
theorem jJ0_38 : Cond.fieldLink RJ0 38 "java/lang/String" "COMPACT_STRINGS" "Z" ∈ lw_tbl := tb3 (List.mem_of_getElem? (i := 194) rfl)
theorem jJ0_15 : Cond.fieldLink RJ0 15 "java/lang/String" "coder" "B" ∈ lw_tbl := tb9 (List.mem_of_getElem? (i := 162) rfl)
theorem jJ0_9 : Cond.fieldLink RJ0 9 "java/lang/String" "value" "[B" ∈ lw_tbl := tb9 (List.mem_of_getElem? (i := 161) rfl)
theorem lJ0_335 : Cond.methodLink RJ0 335 yJ0_coder_7d493 ∈ lw_tbl := tb3 (List.mem_of_getElem? (i := 190) rfl)
theorem jJ0_1053 : Cond.fieldLink RJ0 1053 "jdk/internal/util/Preconditions" "SIOOBE_FORMATTER" "Ljava/util/function/BiFunction;" ∈ lw_tbl := tb3 (List.mem_of_getElem? (i := 210) rfl)
theorem lJ0_1059 : Cond.methodLink RJ0 1059 yJ3_checkIndex_8e157 ∈ lw_tbl := tb3 (List.mem_of_getElem? (i := 212) rfl)
theorem lJ1_9 : Cond.methodLink RJ1 9 yJ0_checkIndex_df160 ∈ lw_tbl := tb3 (List.mem_of_getElem? (i := 207) rfl)
theorem lJ0_492 : Cond.methodLink RJ0 492 yJ0_isLatin1_aae02 ∈ lw_tbl := tb3 (List.mem_of_getElem? (i := 200) rfl)
theorem lJ0_495 : Cond.methodLink RJ0 495 yJ1_charAt_3b067 ∈ lw_tbl := tb3 (List.mem_of_getElem? (i := 204) rfl)
theorem lX1_43 : Cond.methodLink RX1 43 yJ0_length_8abf5 ∈ lw_tbl := tb3 (List.mem_of_getElem? (i := 186) rfl)
theorem lX1_49 : Cond.methodLink RX1 49 yJ0_charAt_5068e ∈ lw_tbl := tb3 (List.mem_of_getElem? (i := 196) rfl)
theorem lX1_53 : Cond.methodLink RX1 53 yX1_takeIf ∈ lw_tbl := tb3 (List.mem_of_getElem? (i := 182) rfl)
theorem lX1_57 : Cond.methodLink RX1 57 yX1_refuse ∈ lw_tbl := tb4 (List.mem_of_getElem? (i := 4) rfl)
theorem cX1_86 : (RX1, 86, "--", 1) ∈ strT := by decide +kernel
theorem cX1_88 : (RX1, 88, ">", 2) ∈ strT := by decide +kernel
theorem lX1_90 : Cond.methodLink RX1 90 yX1_take ∈ lw_tbl := tb4 (List.mem_of_getElem? (i := 0) rfl)
theorem lX1_93 : Cond.methodLink RX1 93 yX1_isChar ∈ lw_tbl := tb4 (List.mem_of_getElem? (i := 8) rfl)
theorem lX1_68 : Cond.methodLink RX1 68 yX1_skipSpace ∈ lw_tbl := tb3 (List.mem_of_getElem? (i := 170) rfl)
theorem cX1_81 : (RX1, 81, "<!--", 0) ∈ strT := by decide +kernel
theorem lX1_83 : Cond.methodLink RX1 83 yX1_finishComment ∈ lw_tbl := tb3 (List.mem_of_getElem? (i := 234) rfl)
theorem lX1_78 : Cond.methodLink RX1 78 yX1_isNameByte ∈ lw_tbl := tb4 (List.mem_of_getElem? (i := 32) rfl)
theorem fX1_22 : FLk RX1 22 1 3 0 := ⟨RX1, TX1, 7, rfl, by decide, viX1, tb1 (List.mem_of_getElem? (i := 46) rfl), rfl⟩
theorem fX1_25 : FLk RX1 25 1 4 0 := ⟨RX1, TX1, 7, rfl, by decide, viX1, tb1 (List.mem_of_getElem? (i := 50) rfl), rfl⟩
theorem lX1_71 : Cond.methodLink RX1 71 yX1_startsName ∈ lw_tbl := tb4 (List.mem_of_getElem? (i := 25) rfl)
theorem lX1_74 : Cond.methodLink RX1 74 yX1_needToken ∈ lw_tbl := tb4 (List.mem_of_getElem? (i := 28) rfl)
theorem fX5_59 : FLk RX5 59 1 4 0 := ⟨RX1, TX1, 7, rfl, by decide, viX1, tb1 (List.mem_of_getElem? (i := 51) rfl), rfl⟩
theorem fX5_64 : FLk RX5 64 1 0 2 := ⟨RX1, TX1, 7, rfl, by decide, viX1, tb1 (List.mem_of_getElem? (i := 37) rfl), rfl⟩
theorem fX5_65 : FLk RX5 65 1 3 0 := ⟨RX1, TX1, 7, rfl, by decide, viX1, tb1 (List.mem_of_getElem? (i := 48) rfl), rfl⟩
theorem fX5_25 : FLk RX5 25 5 4 2 := ⟨RX5, TX5, 8, rfl, by decide, viX5, tb2 (List.mem_of_getElem? (i := 74) rfl), rfl⟩
theorem fX5_22 : FLk RX5 22 5 3 2 := ⟨RX5, TX5, 8, rfl, by decide, viX5, tb2 (List.mem_of_getElem? (i := 73) rfl), rfl⟩
theorem lX5_68 : Cond.methodLink RX5 68 yX5_bucketOf ∈ lw_tbl := tb4 (List.mem_of_getElem? (i := 43) rfl)
theorem fX5_34 : FLk RX5 34 5 7 0 := ⟨RX5, TX5, 8, rfl, by decide, viX5, tb2 (List.mem_of_getElem? (i := 77) rfl), rfl⟩
theorem lX5_72 : Cond.methodLink RX5 72 yX5_isThat ∈ lw_tbl := tb4 (List.mem_of_getElem? (i := 46) rfl)
theorem fX5_28 : FLk RX5 28 5 5 2 := ⟨RX5, TX5, 8, rfl, by decide, viX5, tb2 (List.mem_of_getElem? (i := 75) rfl), rfl⟩
theorem lX5_76 : Cond.methodLink RX5 76 yX5_find ∈ lw_tbl := tb4 (List.mem_of_getElem? (i := 39) rfl)
theorem fX5_15 : FLk RX5 15 5 1 2 := ⟨RX5, TX5, 8, rfl, by decide, viX5, tb2 (List.mem_of_getElem? (i := 69) rfl), rfl⟩
theorem fX5_19 : FLk RX5 19 5 2 2 := ⟨RX5, TX5, 8, rfl, by decide, viX5, tb2 (List.mem_of_getElem? (i := 71) rfl), rfl⟩
theorem fX9_44 : FLk RX9 44 9 10 0 := ⟨RX9, TX9, 11, rfl, by decide, viX9, tb2 (List.mem_of_getElem? (i := 122) rfl), rfl⟩
theorem fX9_11 : FLk RX9 11 9 0 2 := ⟨RX9, TX9, 11, rfl, by decide, viX9, tb2 (List.mem_of_getElem? (i := 101) rfl), rfl⟩
theorem fX9_15 : FLk RX9 15 9 1 2 := ⟨RX9, TX9, 11, rfl, by decide, viX9, tb2 (List.mem_of_getElem? (i := 104) rfl), rfl⟩
theorem fX9_18 : FLk RX9 18 9 2 2 := ⟨RX9, TX9, 11, rfl, by decide, viX9, tb2 (List.mem_of_getElem? (i := 106) rfl), rfl⟩
theorem fX9_21 : FLk RX9 21 9 3 2 := ⟨RX9, TX9, 11, rfl, by decide, viX9, tb2 (List.mem_of_getElem? (i := 108) rfl), rfl⟩
theorem fX9_34 : FLk RX9 34 9 7 2 := ⟨RX9, TX9, 11, rfl, by decide, viX9, tb2 (List.mem_of_getElem? (i := 113) rfl), rfl⟩
theorem fX9_37 : FLk RX9 37 9 8 2 := ⟨RX9, TX9, 11, rfl, by decide, viX9, tb2 (List.mem_of_getElem? (i := 116) rfl), rfl⟩
theorem fX9_40 : FLk RX9 40 9 9 2 := ⟨RX9, TX9, 11, rfl, by decide, viX9, tb2 (List.mem_of_getElem? (i := 119) rfl), rfl⟩
theorem fX9_24 : FLk RX9 24 9 4 2 := ⟨RX9, TX9, 11, rfl, by decide, viX9, tb2 (List.mem_of_getElem? (i := 110) rfl), rfl⟩
theorem fX9_31 : FLk RX9 31 9 6 2 := ⟨RX9, TX9, 11, rfl, by decide, viX9, tb2 (List.mem_of_getElem? (i := 112) rfl), rfl⟩
theorem cX9_48 : Cond.constantLong RX9 48 (Int64.ofInt (-1)) ∈ lw_tbl := tb4 (List.mem_of_getElem? (i := 86) rfl)
theorem lX9_50 : Cond.methodLink RX9 50 yX9_named ∈ lw_tbl := tb4 (List.mem_of_getElem? (i := 87) rfl)
theorem fX9_27 : FLk RX9 27 9 5 2 := ⟨RX9, TX9, 11, rfl, by decide, viX9, tb2 (List.mem_of_getElem? (i := 111) rfl), rfl⟩
theorem fX2_44 : FLk RX2 44 2 0 2 := ⟨RX2, TX2, 10, rfl, by decide, viX2, tb1 (List.mem_of_getElem? (i := 79) rfl), rfl⟩
theorem lX2_60 : Cond.methodLink RX2 60 yX1_needName ∈ lw_tbl := tb4 (List.mem_of_getElem? (i := 21) rfl)
theorem fX2_111 : FLk RX2 111 3 1 2 := ⟨RX3, TX3, 19, rfl, by decide, viX3, tb2 (List.mem_of_getElem? (i := 225) rfl), rfl⟩
theorem fX2_63 : FLk RX2 63 3 0 2 := ⟨RX3, TX3, 19, rfl, by decide, viX3, tb2 (List.mem_of_getElem? (i := 219) rfl), rfl⟩
theorem lX2_69 : Cond.methodLink RX2 69 yX5_keep ∈ lw_tbl := tb4 (List.mem_of_getElem? (i := 35) rfl)
theorem lX2_189 : Cond.methodLink RX2 189 yX9_addPlace ∈ lw_tbl := tb4 (List.mem_of_getElem? (i := 82) rfl)
theorem fX2_192 : FLk RX2 192 1 3 0 := ⟨RX1, TX1, 7, rfl, by decide, viX1, tb1 (List.mem_of_getElem? (i := 49) rfl), rfl⟩
theorem lX2_118 : Cond.methodLink RX2 118 yX1_refuse ∈ lw_tbl := tb4 (List.mem_of_getElem? (i := 60) rfl)
theorem fX2_33 : FLk RX2 33 2 7 1 := ⟨RX2, TX2, 10, rfl, by decide, viX2, tb1 (List.mem_of_getElem? (i := 86) rfl), rfl⟩
theorem lX2_78 : Cond.methodLink RX2 78 yX1_skipSpace ∈ lw_tbl := tb4 (List.mem_of_getElem? (i := 50) rfl)
theorem fX2_89 : FLk RX2 89 1 1 0 := ⟨RX1, TX1, 7, rfl, by decide, viX1, tb1 (List.mem_of_getElem? (i := 40) rfl), rfl⟩
theorem cX2_157 : (RX2, 157, "|", 11) ∈ strT := by decide +kernel
theorem lX2_50 : Cond.methodLink RX2 50 yX1_takeIf ∈ lw_tbl := tb4 (List.mem_of_getElem? (i := 16) rfl)
theorem lX2_159 : Cond.methodLink RX2 159 yX2_readPlace ∈ lw_tbl := tb4 (List.mem_of_getElem? (i := 78) rfl)
theorem cX2_162 : (RX2, 162, ")", 12) ∈ strT := by decide +kernel
theorem lX2_83 : Cond.methodLink RX2 83 yX1_take ∈ lw_tbl := tb4 (List.mem_of_getElem? (i := 52) rfl)
theorem cX2_164 : (RX2, 164, "*", 13) ∈ strT := by decide +kernel
theorem fX2_166 : FLk RX2 166 9 3 2 := ⟨RX9, TX9, 11, rfl, by decide, viX9, tb2 (List.mem_of_getElem? (i := 109) rfl), rfl⟩
theorem fX2_94 : FLk RX2 94 1 2 0 := ⟨RX1, TX1, 7, rfl, by decide, viX1, tb1 (List.mem_of_getElem? (i := 43) rfl), rfl⟩
theorem fX2_11 : FLk RX2 11 2 1 2 := ⟨RX2, TX2, 10, rfl, by decide, viX2, tb1 (List.mem_of_getElem? (i := 80) rfl), rfl⟩
theorem fX2_29 : FLk RX2 29 2 6 0 := ⟨RX2, TX2, 10, rfl, by decide, viX2, tb1 (List.mem_of_getElem? (i := 85) rfl), rfl⟩
theorem fX2_15 : FLk RX2 15 2 2 2 := ⟨RX2, TX2, 10, rfl, by decide, viX2, tb1 (List.mem_of_getElem? (i := 81) rfl), rfl⟩
theorem fX2_18 : FLk RX2 18 2 3 2 := ⟨RX2, TX2, 10, rfl, by decide, viX2, tb1 (List.mem_of_getElem? (i := 82) rfl), rfl⟩
theorem fX2_22 : FLk RX2 22 2 4 2 := ⟨RX2, TX2, 10, rfl, by decide, viX2, tb1 (List.mem_of_getElem? (i := 83) rfl), rfl⟩
theorem fX2_25 : FLk RX2 25 2 5 2 := ⟨RX2, TX2, 10, rfl, by decide, viX2, tb1 (List.mem_of_getElem? (i := 84) rfl), rfl⟩
theorem lX2_185 : Cond.methodLink RX2 185 yX1_peek ∈ lw_tbl := tb4 (List.mem_of_getElem? (i := 105) rfl)
theorem pX2_94 : PLk RX2 94 1 2 0 .int false := ⟨RX1, TX1, 7, tyX1, rfl, by decide, viX1, tb1 (List.mem_of_getElem? (i := 43) rfl), rfl, tyX1_ok, nmX1, rfl, (fun h => by first | rfl | (cases h)), by decide +kernel⟩
theorem lX2_199 : Cond.methodLink RX2 199 yX9_link ∈ lw_tbl := tb4 (List.mem_of_getElem? (i := 116) rfl)
theorem fX2_40 : FLk RX2 40 2 9 0 := ⟨RX2, TX2, 10, rfl, by decide, viX2, tb1 (List.mem_of_getElem? (i := 88) rfl), rfl⟩
theorem fX2_37 : FLk RX2 37 2 8 1 := ⟨RX2, TX2, 10, rfl, by decide, viX2, tb1 (List.mem_of_getElem? (i := 87) rfl), rfl⟩
theorem cX2_195 : (RX2, 195, "?", 14) ∈ strT := by decide +kernel
theorem cX2_197 : (RX2, 197, "+", 15) ∈ strT := by decide +kernel
theorem lX2_203 : Cond.methodLink RX2 203 yX2_joinPart ∈ lw_tbl := tb4 (List.mem_of_getElem? (i := 120) rfl)
theorem lX2_169 : Cond.methodLink RX2 169 yX2_openGroup ∈ lw_tbl := tb4 (List.mem_of_getElem? (i := 97) rfl)
theorem lX2_172 : Cond.methodLink RX2 172 yX2_readSign ∈ lw_tbl := tb4 (List.mem_of_getElem? (i := 101) rfl)
theorem lX2_175 : Cond.methodLink RX2 175 yX2_closeGroup ∈ lw_tbl := tb4 (List.mem_of_getElem? (i := 106) rfl)
theorem lX2_178 : Cond.methodLink RX2 178 yX2_endPart ∈ lw_tbl := tb4 (List.mem_of_getElem? (i := 110) rfl)
theorem cX2_147 : (RX2, 147, "(", 9) ∈ strT := by decide +kernel
theorem fX2_182 : FLk RX2 182 9 7 2 := ⟨RX9, TX9, 11, rfl, by decide, viX9, tb2 (List.mem_of_getElem? (i := 114) rfl), rfl⟩
theorem fX2_183 : FLk RX2 183 9 8 2 := ⟨RX9, TX9, 11, rfl, by decide, viX9, tb2 (List.mem_of_getElem? (i := 117) rfl), rfl⟩
theorem fX2_184 : FLk RX2 184 9 9 2 := ⟨RX9, TX9, 11, rfl, by decide, viX9, tb2 (List.mem_of_getElem? (i := 120) rfl), rfl⟩
theorem fX2_115 : FLk RX2 115 9 10 0 := ⟨RX9, TX9, 11, rfl, by decide, viX9, tb2 (List.mem_of_getElem? (i := 124) rfl), rfl⟩
theorem lX2_56 : Cond.methodLink RX2 56 yX1_needSpace ∈ lw_tbl := tb4 (List.mem_of_getElem? (i := 17) rfl)
theorem fX2_122 : FLk RX2 122 3 2 2 := ⟨RX3, TX3, 19, rfl, by decide, viX3, tb2 (List.mem_of_getElem? (i := 229) rfl), rfl⟩
theorem fX2_126 : FLk RX2 126 7 11 0 := ⟨RX7, TX7, 13, rfl, by decide, viX7, tb2 (List.mem_of_getElem? (i := 187) rfl), rfl⟩
theorem lX2_129 : Cond.methodLink RX2 129 yX9_add ∈ lw_tbl := tb4 (List.mem_of_getElem? (i := 61) rfl)
theorem lX2_133 : Cond.methodLink RX2 133 yX5_has ∈ lw_tbl := tb4 (List.mem_of_getElem? (i := 65) rfl)
theorem fX2_137 : FLk RX2 137 5 1 2 := ⟨RX5, TX5, 8, rfl, by decide, viX5, tb2 (List.mem_of_getElem? (i := 70) rfl), rfl⟩
theorem cX2_140 : (RX2, 140, "EMPTY", 7) ∈ strT := by decide +kernel
theorem fX2_142 : FLk RX2 142 9 0 2 := ⟨RX9, TX9, 11, rfl, by decide, viX9, tb2 (List.mem_of_getElem? (i := 102) rfl), rfl⟩
theorem cX2_145 : (RX2, 145, "ANY", 8) ∈ strT := by decide +kernel
theorem cX2_149 : (RX2, 149, "#PCDATA", 10) ∈ strT := by decide +kernel
theorem lX2_151 : Cond.methodLink RX2 151 yX2_readMixed ∈ lw_tbl := tb4 (List.mem_of_getElem? (i := 73) rfl)
theorem lX2_154 : Cond.methodLink RX2 154 yX2_readGroup ∈ lw_tbl := tb4 (List.mem_of_getElem? (i := 93) rfl)
theorem cX2_109 : (RX2, 109, ">", 2) ∈ strT := by decide +kernel
theorem lX5_79 : Cond.methodLink RX5 79 yX5_has ∈ lw_tbl := tb4 (List.mem_of_getElem? (i := 138) rfl)
theorem fX7_45 : FLk RX7 45 7 11 0 := ⟨RX7, TX7, 13, rfl, by decide, viX7, tb2 (List.mem_of_getElem? (i := 186) rfl), rfl⟩
theorem fX7_11 : FLk RX7 11 7 0 2 := ⟨RX7, TX7, 13, rfl, by decide, viX7, tb2 (List.mem_of_getElem? (i := 156) rfl), rfl⟩
theorem fX7_36 : FLk RX7 36 7 8 2 := ⟨RX7, TX7, 13, rfl, by decide, viX7, tb2 (List.mem_of_getElem? (i := 179) rfl), rfl⟩
theorem lX7_52 : Cond.methodLink RX7 52 yX5_has ∈ lw_tbl := tb4 (List.mem_of_getElem? (i := 151) rfl)
theorem fX7_58 : FLk RX7 58 5 2 2 := ⟨RX5, TX5, 8, rfl, by decide, viX5, tb2 (List.mem_of_getElem? (i := 72) rfl), rfl⟩
theorem fX7_15 : FLk RX7 15 7 1 2 := ⟨RX7, TX7, 13, rfl, by decide, viX7, tb2 (List.mem_of_getElem? (i := 159) rfl), rfl⟩
theorem fX7_18 : FLk RX7 18 7 2 2 := ⟨RX7, TX7, 13, rfl, by decide, viX7, tb2 (List.mem_of_getElem? (i := 161) rfl), rfl⟩
theorem fX7_21 : FLk RX7 21 7 3 2 := ⟨RX7, TX7, 13, rfl, by decide, viX7, tb2 (List.mem_of_getElem? (i := 164) rfl), rfl⟩
theorem fX7_49 : FLk RX7 49 7 12 0 := ⟨RX7, TX7, 13, rfl, by decide, viX7, tb2 (List.mem_of_getElem? (i := 190) rfl), rfl⟩
theorem fX7_24 : FLk RX7 24 7 4 2 := ⟨RX7, TX7, 13, rfl, by decide, viX7, tb2 (List.mem_of_getElem? (i := 166) rfl), rfl⟩
theorem fX7_27 : FLk RX7 27 7 5 2 := ⟨RX7, TX7, 13, rfl, by decide, viX7, tb2 (List.mem_of_getElem? (i := 168) rfl), rfl⟩
theorem fX7_30 : FLk RX7 30 7 6 2 := ⟨RX7, TX7, 13, rfl, by decide, viX7, tb2 (List.mem_of_getElem? (i := 171) rfl), rfl⟩
theorem fX7_33 : FLk RX7 33 7 7 2 := ⟨RX7, TX7, 13, rfl, by decide, viX7, tb2 (List.mem_of_getElem? (i := 175) rfl), rfl⟩
theorem fX7_39 : FLk RX7 39 7 9 2 := ⟨RX7, TX7, 13, rfl, by decide, viX7, tb2 (List.mem_of_getElem? (i := 182) rfl), rfl⟩
theorem fX7_42 : FLk RX7 42 7 10 2 := ⟨RX7, TX7, 13, rfl, by decide, viX7, tb2 (List.mem_of_getElem? (i := 184) rfl), rfl⟩
theorem lX2_240 : Cond.methodLink RX2 240 yX1_needToken ∈ lw_tbl := tb4 (List.mem_of_getElem? (i := 162) rfl)
theorem fX2_243 : FLk RX2 243 1 4 0 := ⟨RX1, TX1, 7, rfl, by decide, viX1, tb1 (List.mem_of_getElem? (i := 52) rfl), rfl⟩
theorem lX2_246 : Cond.methodLink RX2 246 yX7_addToken ∈ lw_tbl := tb4 (List.mem_of_getElem? (i := 163) rfl)
theorem cX2_230 : (RX2, 230, "CDATA", 17) ∈ strT := by decide +kernel
theorem cX2_232 : (RX2, 232, "ID", 18) ∈ strT := by decide +kernel
theorem fX2_234 : FLk RX2 234 7 2 2 := ⟨RX7, TX7, 13, rfl, by decide, viX7, tb2 (List.mem_of_getElem? (i := 163) rfl), rfl⟩
theorem lX2_237 : Cond.methodLink RX2 237 yX2_readTokens ∈ lw_tbl := tb4 (List.mem_of_getElem? (i := 158) rfl)
theorem lX1_109 : Cond.methodLink RX1 109 yX1_isDigit ∈ lw_tbl := tb4 (List.mem_of_getElem? (i := 191) rfl)
theorem cX1_96 : (RX1, 96, "&lt;", 22) ∈ strT := by decide +kernel
theorem cX1_98 : (RX1, 98, "&gt;", 23) ∈ strT := by decide +kernel
theorem cX1_100 : (RX1, 100, "&amp;", 24) ∈ strT := by decide +kernel
theorem cX1_102 : (RX1, 102, "&quot;", 25) ∈ strT := by decide +kernel
theorem cX1_104 : (RX1, 104, "&apos;", 26) ∈ strT := by decide +kernel
theorem lX1_106 : Cond.methodLink RX1 106 yX1_takeNumbered ∈ lw_tbl := tb4 (List.mem_of_getElem? (i := 187) rfl)
theorem fX3_67 : FLk RX3 67 3 14 0 := ⟨RX3, TX3, 19, rfl, by decide, viX3, tb3 (List.mem_of_getElem? (i := 34) rfl), rfl⟩
theorem fX3_71 : FLk RX3 71 3 15 0 := ⟨RX3, TX3, 19, rfl, by decide, viX3, tb3 (List.mem_of_getElem? (i := 37) rfl), rfl⟩
theorem lX3_98 : Cond.methodLink RX3 98 yX3_isFull ∈ lw_tbl := tb4 (List.mem_of_getElem? (i := 198) rfl)
theorem fX3_60 : FLk RX3 60 3 12 2 := ⟨RX3, TX3, 19, rfl, by decide, viX3, tb3 (List.mem_of_getElem? (i := 30) rfl), rfl⟩
theorem lX1_112 : Cond.methodLink RX1 112 yX1_takePiece ∈ lw_tbl := tb4 (List.mem_of_getElem? (i := 178) rfl)
theorem lX1_115 : Cond.methodLink RX1 115 yX3_addValueByte ∈ lw_tbl := tb4 (List.mem_of_getElem? (i := 194) rfl)
theorem fX2_250 : FLk RX2 250 3 14 0 := ⟨RX3, TX3, 19, rfl, by decide, viX3, tb3 (List.mem_of_getElem? (i := 36) rfl), rfl⟩
theorem cX2_253 : (RX2, 253, "#REQUIRED", 19) ∈ strT := by decide +kernel
theorem cX2_255 : (RX2, 255, "#IMPLIED", 20) ∈ strT := by decide +kernel
theorem lX2_259 : Cond.methodLink RX2 259 yX1_takeValue ∈ lw_tbl := tb4 (List.mem_of_getElem? (i := 174) rfl)
theorem fX2_262 : FLk RX2 262 7 5 2 := ⟨RX7, TX7, 13, rfl, by decide, viX7, tb2 (List.mem_of_getElem? (i := 170) rfl), rfl⟩
theorem fX2_265 : FLk RX2 265 7 6 2 := ⟨RX7, TX7, 13, rfl, by decide, viX7, tb2 (List.mem_of_getElem? (i := 174) rfl), rfl⟩
theorem fX2_268 : FLk RX2 268 7 7 2 := ⟨RX7, TX7, 13, rfl, by decide, viX7, tb2 (List.mem_of_getElem? (i := 178) rfl), rfl⟩
theorem lX2_207 : Cond.methodLink RX2 207 yX1_reachesName ∈ lw_tbl := tb4 (List.mem_of_getElem? (i := 130) rfl)
theorem lX2_210 : Cond.methodLink RX2 210 yX5_ruleOf ∈ lw_tbl := tb4 (List.mem_of_getElem? (i := 134) rfl)
theorem lX2_214 : Cond.methodLink RX2 214 yX7_find ∈ lw_tbl := tb4 (List.mem_of_getElem? (i := 139) rfl)
theorem lX2_217 : Cond.methodLink RX2 217 yX7_chainLength ∈ lw_tbl := tb4 (List.mem_of_getElem? (i := 143) rfl)
theorem lX2_220 : Cond.methodLink RX2 220 yX7_add ∈ lw_tbl := tb4 (List.mem_of_getElem? (i := 147) rfl)
theorem lX2_223 : Cond.methodLink RX2 223 yX2_readType ∈ lw_tbl := tb4 (List.mem_of_getElem? (i := 152) rfl)
theorem lX2_227 : Cond.methodLink RX2 227 yX2_readDefault ∈ lw_tbl := tb4 (List.mem_of_getElem? (i := 167) rfl)
theorem cX2_48 : (RX2, 48, "<!DOCTYPE", 3) ∈ strT := by decide +kernel
theorem pX2_75 : PLk RX2 75 3 17 0 .int false := ⟨RX3, TX3, 19, tyX3, rfl, by decide, viX3, tb3 (List.mem_of_getElem? (i := 45) rfl), rfl, tyX3_ok, nmX3, rfl, (fun h => by first | rfl | (cases h)), by decide +kernel⟩
theorem cX2_81 : (RX2, 81, "[", 4) ∈ strT := by decide +kernel
theorem lX2_86 : Cond.methodLink RX2 86 yX1_skipComments ∈ lw_tbl := tb4 (List.mem_of_getElem? (i := 53) rfl)
theorem cX2_92 : (RX2, 92, "]", 5) ∈ strT := by decide +kernel
theorem cX2_97 : (RX2, 97, "<!ELEMENT", 6) ∈ strT := by decide +kernel
theorem lX2_99 : Cond.methodLink RX2 99 yX2_readElement ∈ lw_tbl := tb4 (List.mem_of_getElem? (i := 56) rfl)
theorem cX2_103 : (RX2, 103, "<!ATTLIST", 16) ∈ strT := by decide +kernel
theorem lX2_105 : Cond.methodLink RX2 105 yX2_readAttlist ∈ lw_tbl := tb4 (List.mem_of_getElem? (i := 126) rfl)
theorem fX3_74 : FLk RX3 74 3 16 0 := ⟨RX3, TX3, 19, rfl, by decide, viX3, tb3 (List.mem_of_getElem? (i := 39) rfl), rfl⟩
theorem fX3_42 : FLk RX3 42 3 6 2 := ⟨RX3, TX3, 19, rfl, by decide, viX3, tb3 (List.mem_of_getElem? (i := 6) rfl), rfl⟩
theorem fX3_45 : FLk RX3 45 3 7 2 := ⟨RX3, TX3, 19, rfl, by decide, viX3, tb3 (List.mem_of_getElem? (i := 11) rfl), rfl⟩
theorem fX3_32 : FLk RX3 32 3 3 2 := ⟨RX3, TX3, 19, rfl, by decide, viX3, tb2 (List.mem_of_getElem? (i := 233) rfl), rfl⟩
theorem fX3_36 : FLk RX3 36 3 4 2 := ⟨RX3, TX3, 19, rfl, by decide, viX3, tb2 (List.mem_of_getElem? (i := 237) rfl), rfl⟩
theorem fX3_39 : FLk RX3 39 3 5 2 := ⟨RX3, TX3, 19, rfl, by decide, viX3, tb3 (List.mem_of_getElem? (i := 0) rfl), rfl⟩
theorem fX3_48 : FLk RX3 48 3 8 2 := ⟨RX3, TX3, 19, rfl, by decide, viX3, tb3 (List.mem_of_getElem? (i := 13) rfl), rfl⟩
theorem fX3_51 : FLk RX3 51 3 9 2 := ⟨RX3, TX3, 19, rfl, by decide, viX3, tb3 (List.mem_of_getElem? (i := 16) rfl), rfl⟩
theorem fX3_54 : FLk RX3 54 3 10 2 := ⟨RX3, TX3, 19, rfl, by decide, viX3, tb3 (List.mem_of_getElem? (i := 20) rfl), rfl⟩
theorem fX3_57 : FLk RX3 57 3 11 2 := ⟨RX3, TX3, 19, rfl, by decide, viX3, tb3 (List.mem_of_getElem? (i := 25) rfl), rfl⟩
theorem lX3_90 : Cond.methodLink RX3 90 yX3_has ∈ lw_tbl := tb4 (List.mem_of_getElem? (i := 210) rfl)
theorem lX3_94 : Cond.methodLink RX3 94 yX3_countIn ∈ lw_tbl := tb4 (List.mem_of_getElem? (i := 214) rfl)
theorem fX10_135 : FLk RX10 135 3 6 2 := ⟨RX3, TX3, 19, rfl, by decide, viX3, tb3 (List.mem_of_getElem? (i := 7) rfl), rfl⟩
theorem fX10_9 : FLk RX10 9 10 1 0 := ⟨RX10, TX10, 3, rfl, by decide, viX10, tb1 (List.mem_of_getElem? (i := 119) rfl), rfl⟩
theorem lX10_22 : Cond.methodLink RX10 22 yX3_add ∈ lw_tbl := tb4 (List.mem_of_getElem? (i := 206) rfl)
theorem fX10_18 : FLk RX10 18 10 0 2 := ⟨RX10, TX10, 3, rfl, by decide, viX10, tb1 (List.mem_of_getElem? (i := 118) rfl), rfl⟩
theorem lX10_64 : Cond.methodLink RX10 64 yX1_needName ∈ lw_tbl := tb4 (List.mem_of_getElem? (i := 224) rfl)
theorem fX10_67 : FLk RX10 67 1 3 0 := ⟨RX1, TX1, 7, rfl, by decide, viX1, tb1 (List.mem_of_getElem? (i := 47) rfl), rfl⟩
theorem fX10_70 : FLk RX10 70 3 0 2 := ⟨RX3, TX3, 19, rfl, by decide, viX3, tb2 (List.mem_of_getElem? (i := 220) rfl), rfl⟩
theorem lX10_74 : Cond.methodLink RX10 74 yX5_keep ∈ lw_tbl := tb4 (List.mem_of_getElem? (i := 225) rfl)
theorem lX10_113 : Cond.methodLink RX10 113 yX3_attributeOf ∈ lw_tbl := tb4 (List.mem_of_getElem? (i := 233) rfl)
theorem lX10_80 : Cond.methodLink RX10 80 yX1_refuse ∈ lw_tbl := tb4 (List.mem_of_getElem? (i := 226) rfl)
theorem lX10_116 : Cond.methodLink RX10 116 yX10_addAttribute ∈ lw_tbl := tb4 (List.mem_of_getElem? (i := 237) rfl)
theorem lX10_120 : Cond.methodLink RX10 120 yX1_skipSpace ∈ lw_tbl := tb5 (List.mem_of_getElem? (i := 1) rfl)
theorem cX10_123 : (RX10, 123, "=", 28) ∈ strT := by decide +kernel
theorem lX10_30 : Cond.methodLink RX10 30 yX1_take ∈ lw_tbl := tb4 (List.mem_of_getElem? (i := 219) rfl)
theorem lX10_125 : Cond.methodLink RX10 125 yX1_takeValue ∈ lw_tbl := tb5 (List.mem_of_getElem? (i := 3) rfl)
theorem fX10_128 : FLk RX10 128 3 11 2 := ⟨RX3, TX3, 19, rfl, by decide, viX3, tb3 (List.mem_of_getElem? (i := 26) rfl), rfl⟩
theorem fX10_132 : FLk RX10 132 3 14 0 := ⟨RX3, TX3, 19, rfl, by decide, viX3, tb3 (List.mem_of_getElem? (i := 35) rfl), rfl⟩
theorem fX10_138 : FLk RX10 138 3 2 2 := ⟨RX3, TX3, 19, rfl, by decide, viX3, tb2 (List.mem_of_getElem? (i := 230) rfl), rfl⟩
theorem fX10_142 : FLk RX10 142 3 5 2 := ⟨RX3, TX3, 19, rfl, by decide, viX3, tb3 (List.mem_of_getElem? (i := 3) rfl), rfl⟩
theorem lX10_145 : Cond.methodLink RX10 145 yX5_ruleOf ∈ lw_tbl := tb5 (List.mem_of_getElem? (i := 11) rfl)
theorem fX10_151 : FLk RX10 151 7 0 2 := ⟨RX7, TX7, 13, rfl, by decide, viX7, tb2 (List.mem_of_getElem? (i := 157) rfl), rfl⟩
theorem lX10_154 : Cond.methodLink RX10 154 yX7_hasValue ∈ lw_tbl := tb5 (List.mem_of_getElem? (i := 12) rfl)
theorem fX10_158 : FLk RX10 158 3 10 2 := ⟨RX3, TX3, 19, rfl, by decide, viX3, tb3 (List.mem_of_getElem? (i := 21) rfl), rfl⟩
theorem fX10_161 : FLk RX10 161 7 6 2 := ⟨RX7, TX7, 13, rfl, by decide, viX7, tb2 (List.mem_of_getElem? (i := 172) rfl), rfl⟩
theorem fX10_164 : FLk RX10 164 7 7 2 := ⟨RX7, TX7, 13, rfl, by decide, viX7, tb2 (List.mem_of_getElem? (i := 176) rfl), rfl⟩
theorem fX10_167 : FLk RX10 167 3 8 2 := ⟨RX3, TX3, 19, rfl, by decide, viX3, tb3 (List.mem_of_getElem? (i := 14) rfl), rfl⟩
theorem fX10_170 : FLk RX10 170 7 8 2 := ⟨RX7, TX7, 13, rfl, by decide, viX7, tb2 (List.mem_of_getElem? (i := 180) rfl), rfl⟩
theorem lX10_60 : Cond.methodLink RX10 60 yX3_close ∈ lw_tbl := tb5 (List.mem_of_getElem? (i := 20) rfl)
theorem fX10_192 : FLk RX10 192 3 4 2 := ⟨RX3, TX3, 19, rfl, by decide, viX3, tb2 (List.mem_of_getElem? (i := 239) rfl), rfl⟩
theorem fX10_15 : FLk RX10 15 10 2 0 := ⟨RX10, TX10, 3, rfl, by decide, viX10, tb1 (List.mem_of_getElem? (i := 120) rfl), rfl⟩
theorem fX10_84 : FLk RX10 84 3 18 0 := ⟨RX3, TX3, 19, rfl, by decide, viX3, tb3 (List.mem_of_getElem? (i := 49) rfl), rfl⟩
theorem lX10_87 : Cond.methodLink RX10 87 Lib.Math.max.name ∈ lw_tbl := tb4 (List.mem_of_getElem? (i := 227) rfl)
theorem pX10_84 : PLk RX10 84 3 18 0 .int false := ⟨RX3, TX3, 19, tyX3, rfl, by decide, viX3, tb3 (List.mem_of_getElem? (i := 49) rfl), rfl, tyX3_ok, nmX3, rfl, (fun h => by first | rfl | (cases h)), by decide +kernel⟩
theorem fX10_40 : FLk RX10 40 1 1 0 := ⟨RX1, TX1, 7, rfl, by decide, viX1, tb1 (List.mem_of_getElem? (i := 39) rfl), rfl⟩
theorem lX10_93 : Cond.methodLink RX10 93 yX1_reachesName ∈ lw_tbl := tb4 (List.mem_of_getElem? (i := 228) rfl)
theorem lX10_96 : Cond.methodLink RX10 96 yX10_readAttribute ∈ lw_tbl := tb4 (List.mem_of_getElem? (i := 229) rfl)
theorem fX10_99 : FLk RX10 99 1 2 0 := ⟨RX1, TX1, 7, rfl, by decide, viX1, tb1 (List.mem_of_getElem? (i := 44) rfl), rfl⟩
theorem cX10_102 : (RX10, 102, "/>", 29) ∈ strT := by decide +kernel
theorem lX10_45 : Cond.methodLink RX10 45 yX1_takeIf ∈ lw_tbl := tb5 (List.mem_of_getElem? (i := 5) rfl)
theorem cX10_104 : (RX10, 104, ">", 2) ∈ strT := by decide +kernel
theorem lX10_106 : Cond.methodLink RX10 106 yX10_addDefaults ∈ lw_tbl := tb5 (List.mem_of_getElem? (i := 7) rfl)
theorem lX10_109 : Cond.methodLink RX10 109 yX10_leave ∈ lw_tbl := tb5 (List.mem_of_getElem? (i := 16) rfl)
theorem lX10_189 : Cond.methodLink RX10 189 yX5_find ∈ lw_tbl := tb5 (List.mem_of_getElem? (i := 29) rfl)
theorem fX3_64 : FLk RX3 64 3 13 2 := ⟨RX3, TX3, 19, rfl, by decide, viX3, tb3 (List.mem_of_getElem? (i := 32) rfl), rfl⟩
theorem lX10_173 : Cond.methodLink RX10 173 yX1_peek ∈ lw_tbl := tb5 (List.mem_of_getElem? (i := 36) rfl)
theorem lX10_177 : Cond.methodLink RX10 177 yX1_takePiece ∈ lw_tbl := tb5 (List.mem_of_getElem? (i := 37) rfl)
theorem lX10_180 : Cond.methodLink RX10 180 yX3_addTextByte ∈ lw_tbl := tb5 (List.mem_of_getElem? (i := 38) rfl)
theorem lX10_183 : Cond.methodLink RX10 183 yX1_isSpace ∈ lw_tbl := tb5 (List.mem_of_getElem? (i := 42) rfl)
theorem fX10_186 : FLk RX10 186 3 15 0 := ⟨RX3, TX3, 19, rfl, by decide, viX3, tb3 (List.mem_of_getElem? (i := 38) rfl), rfl⟩
theorem cX10_28 : (RX10, 28, "<", 27) ∈ strT := by decide +kernel
theorem lX10_36 : Cond.methodLink RX10 36 yX10_readTag ∈ lw_tbl := tb4 (List.mem_of_getElem? (i := 220) rfl)
theorem cX10_43 : (RX10, 43, "</", 30) ∈ strT := by decide +kernel
theorem lX10_48 : Cond.methodLink RX10 48 yX10_readEndTag ∈ lw_tbl := tb5 (List.mem_of_getElem? (i := 25) rfl)
theorem cX10_51 : (RX10, 51, "<!--", 0) ∈ strT := by decide +kernel
theorem lX10_53 : Cond.methodLink RX10 53 yX1_finishComment ∈ lw_tbl := tb5 (List.mem_of_getElem? (i := 31) rfl)
theorem lX10_57 : Cond.methodLink RX10 57 yX10_readText ∈ lw_tbl := tb5 (List.mem_of_getElem? (i := 32) rfl)
theorem fX4_72 : FLk RX4 72 3 0 2 := ⟨RX3, TX3, 19, rfl, by decide, viX3, tb2 (List.mem_of_getElem? (i := 222) rfl), rfl⟩
theorem fX4_65 : FLk RX4 65 3 2 2 := ⟨RX3, TX3, 19, rfl, by decide, viX3, tb2 (List.mem_of_getElem? (i := 231) rfl), rfl⟩
theorem fX4_116 : FLk RX4 116 7 1 2 := ⟨RX7, TX7, 13, rfl, by decide, viX7, tb2 (List.mem_of_getElem? (i := 160) rfl), rfl⟩
theorem lX4_117 : Cond.methodLink RX4 117 yX5_ruleOf ∈ lw_tbl := tb5 (List.mem_of_getElem? (i := 64) rfl)
theorem fX4_96 : FLk RX4 96 7 2 2 := ⟨RX7, TX7, 13, rfl, by decide, viX7, tb2 (List.mem_of_getElem? (i := 162) rfl), rfl⟩
theorem fX4_120 : FLk RX4 120 7 8 2 := ⟨RX7, TX7, 13, rfl, by decide, viX7, tb2 (List.mem_of_getElem? (i := 181) rfl), rfl⟩
theorem fX4_22 : FLk RX4 22 4 3 0 := ⟨RX4, TX4, 4, rfl, by decide, viX4, tb1 (List.mem_of_getElem? (i := 137) rfl), rfl⟩
theorem fX4_11 : FLk RX4 11 4 0 2 := ⟨RX4, TX4, 4, rfl, by decide, viX4, tb1 (List.mem_of_getElem? (i := 134) rfl), rfl⟩
theorem fX4_132 : FLk RX4 132 3 12 2 := ⟨RX3, TX3, 19, rfl, by decide, viX3, tb3 (List.mem_of_getElem? (i := 31) rfl), rfl⟩
theorem lX4_136 : Cond.methodLink RX4 136 yX1_startsName ∈ lw_tbl := tb5 (List.mem_of_getElem? (i := 77) rfl)
theorem lX4_139 : Cond.methodLink RX4 139 yX1_isNameByte ∈ lw_tbl := tb5 (List.mem_of_getElem? (i := 78) rfl)
theorem fX4_142 : FLk RX4 142 7 3 2 := ⟨RX7, TX7, 13, rfl, by decide, viX7, tb2 (List.mem_of_getElem? (i := 165) rfl), rfl⟩
theorem fX4_145 : FLk RX4 145 7 4 2 := ⟨RX7, TX7, 13, rfl, by decide, viX7, tb2 (List.mem_of_getElem? (i := 167) rfl), rfl⟩
theorem fX4_148 : FLk RX4 148 7 10 2 := ⟨RX7, TX7, 13, rfl, by decide, viX7, tb2 (List.mem_of_getElem? (i := 185) rfl), rfl⟩
theorem fX4_151 : FLk RX4 151 5 0 2 := ⟨RX5, TX5, 8, rfl, by decide, viX5, tb2 (List.mem_of_getElem? (i := 68) rfl), rfl⟩
theorem fX4_154 : FLk RX4 154 7 9 2 := ⟨RX7, TX7, 13, rfl, by decide, viX7, tb2 (List.mem_of_getElem? (i := 183) rfl), rfl⟩
theorem lX4_123 : Cond.methodLink RX4 123 yX4_isName ∈ lw_tbl := tb5 (List.mem_of_getElem? (i := 73) rfl)
theorem lX4_127 : Cond.methodLink RX4 127 yX4_isToken ∈ lw_tbl := tb5 (List.mem_of_getElem? (i := 79) rfl)
theorem lX4_99 : Cond.methodLink RX4 99 yX7_hasValue ∈ lw_tbl := tb5 (List.mem_of_getElem? (i := 59) rfl)
theorem lX4_102 : Cond.methodLink RX4 102 yX4_hasEarlierId ∈ lw_tbl := tb5 (List.mem_of_getElem? (i := 60) rfl)
theorem lX4_37 : Cond.methodLink RX4 37 yX4_report ∈ lw_tbl := tb5 (List.mem_of_getElem? (i := 65) rfl)
theorem fX4_106 : FLk RX4 106 7 6 2 := ⟨RX7, TX7, 13, rfl, by decide, viX7, tb2 (List.mem_of_getElem? (i := 173) rfl), rfl⟩
theorem fX4_109 : FLk RX4 109 7 7 2 := ⟨RX7, TX7, 13, rfl, by decide, viX7, tb2 (List.mem_of_getElem? (i := 177) rfl), rfl⟩
theorem lX4_112 : Cond.methodLink RX4 112 yX4_isOfType ∈ lw_tbl := tb5 (List.mem_of_getElem? (i := 69) rfl)
theorem lX9_54 : Cond.methodLink RX9 54 yX9_repeats ∈ lw_tbl := tb5 (List.mem_of_getElem? (i := 95) rfl)
theorem fX4_49 : FLk RX4 49 3 1 2 := ⟨RX3, TX3, 19, rfl, by decide, viX3, tb2 (List.mem_of_getElem? (i := 226) rfl), rfl⟩
theorem fX4_76 : FLk RX4 76 9 1 2 := ⟨RX9, TX9, 11, rfl, by decide, viX9, tb2 (List.mem_of_getElem? (i := 105) rfl), rfl⟩
theorem lX4_79 : Cond.methodLink RX4 79 yX5_specOf ∈ lw_tbl := tb5 (List.mem_of_getElem? (i := 87) rfl)
theorem fX4_85 : FLk RX4 85 9 0 2 := ⟨RX9, TX9, 11, rfl, by decide, viX9, tb2 (List.mem_of_getElem? (i := 103) rfl), rfl⟩
theorem lX4_86 : Cond.methodLink RX4 86 yX9_isDeterministic ∈ lw_tbl := tb5 (List.mem_of_getElem? (i := 91) rfl)
theorem cX4_90 : Cond.constantLong RX4 90 (Int64.ofInt (-1)) ∈ lw_tbl := tb5 (List.mem_of_getElem? (i := 99) rfl)
theorem lX4_92 : Cond.methodLink RX4 92 yX9_repeats ∈ lw_tbl := tb5 (List.mem_of_getElem? (i := 100) rfl)
theorem fX4_53 : FLk RX4 53 9 10 0 := ⟨RX9, TX9, 11, rfl, by decide, viX9, tb2 (List.mem_of_getElem? (i := 125) rfl), rfl⟩
theorem fX4_56 : FLk RX4 56 9 2 2 := ⟨RX9, TX9, 11, rfl, by decide, viX9, tb2 (List.mem_of_getElem? (i := 107) rfl), rfl⟩
theorem lX4_59 : Cond.methodLink RX4 59 yX4_judgeRule ∈ lw_tbl := tb5 (List.mem_of_getElem? (i := 55) rfl)
theorem lX4_62 : Cond.methodLink RX4 62 yX4_judgeSpec ∈ lw_tbl := tb5 (List.mem_of_getElem? (i := 83) rfl)
theorem fX4_69 : FLk RX4 69 7 11 0 := ⟨RX7, TX7, 13, rfl, by decide, viX7, tb2 (List.mem_of_getElem? (i := 188) rfl), rfl⟩
theorem fX4_226 : FLk RX4 226 9 7 2 := ⟨RX9, TX9, 11, rfl, by decide, viX9, tb2 (List.mem_of_getElem? (i := 115) rfl), rfl⟩
theorem fX4_230 : FLk RX4 230 9 9 2 := ⟨RX9, TX9, 11, rfl, by decide, viX9, tb2 (List.mem_of_getElem? (i := 121) rfl), rfl⟩
theorem lX4_211 : Cond.methodLink RX4 211 yX3_firstIn ∈ lw_tbl := tb5 (List.mem_of_getElem? (i := 113) rfl)
theorem fX4_214 : FLk RX4 214 3 9 2 := ⟨RX3, TX3, 19, rfl, by decide, viX3, tb3 (List.mem_of_getElem? (i := 19) rfl), rfl⟩
theorem fX4_42 : FLk RX4 42 3 3 2 := ⟨RX3, TX3, 19, rfl, by decide, viX3, tb2 (List.mem_of_getElem? (i := 236) rfl), rfl⟩
theorem fX4_34 : FLk RX4 34 3 5 2 := ⟨RX3, TX3, 19, rfl, by decide, viX3, tb3 (List.mem_of_getElem? (i := 2) rfl), rfl⟩
theorem lX4_217 : Cond.methodLink RX4 217 yX9_named ∈ lw_tbl := tb5 (List.mem_of_getElem? (i := 117) rfl)
theorem lX4_233 : Cond.methodLink RX4 233 yX9_behind ∈ lw_tbl := tb5 (List.mem_of_getElem? (i := 118) rfl)
theorem fX4_237 : FLk RX4 237 9 8 2 := ⟨RX9, TX9, 11, rfl, by decide, viX9, tb2 (List.mem_of_getElem? (i := 118) rfl), rfl⟩
theorem fX4_163 : FLk RX4 163 3 8 2 := ⟨RX3, TX3, 19, rfl, by decide, viX3, tb3 (List.mem_of_getElem? (i := 15) rfl), rfl⟩
theorem lX4_221 : Cond.methodLink RX4 221 Lib.Math.max.name ∈ lw_tbl := tb5 (List.mem_of_getElem? (i := 122) rfl)
theorem fX4_202 : FLk RX4 202 3 7 2 := ⟨RX3, TX3, 19, rfl, by decide, viX3, tb3 (List.mem_of_getElem? (i := 12) rfl), rfl⟩
theorem lX4_205 : Cond.methodLink RX4 205 yX4_fitsGroup ∈ lw_tbl := tb5 (List.mem_of_getElem? (i := 109) rfl)
theorem lX4_208 : Cond.methodLink RX4 208 yX4_fitsLoosely ∈ lw_tbl := tb5 (List.mem_of_getElem? (i := 123) rfl)
theorem fX4_186 : FLk RX4 186 3 11 2 := ⟨RX3, TX3, 19, rfl, by decide, viX3, tb3 (List.mem_of_getElem? (i := 29) rfl), rfl⟩
theorem fX4_183 : FLk RX4 183 3 10 2 := ⟨RX3, TX3, 19, rfl, by decide, viX3, tb3 (List.mem_of_getElem? (i := 24) rfl), rfl⟩
theorem lX4_198 : Cond.methodLink RX4 198 yX3_hasBytes ∈ lw_tbl := tb5 (List.mem_of_getElem? (i := 140) rfl)
theorem fX4_174 : FLk RX4 174 7 5 2 := ⟨RX7, TX7, 13, rfl, by decide, viX7, tb2 (List.mem_of_getElem? (i := 169) rfl), rfl⟩
theorem lX4_195 : Cond.methodLink RX4 195 yX4_sameValue ∈ lw_tbl := tb5 (List.mem_of_getElem? (i := 136) rfl)
theorem fX4_18 : FLk RX4 18 4 2 0 := ⟨RX4, TX4, 4, rfl, by decide, viX4, tb1 (List.mem_of_getElem? (i := 136) rfl), rfl⟩
theorem fX4_15 : FLk RX4 15 4 1 2 := ⟨RX4, TX4, 4, rfl, by decide, viX4, tb1 (List.mem_of_getElem? (i := 135) rfl), rfl⟩
theorem lX4_189 : Cond.methodLink RX4 189 yX4_isAsFixed ∈ lw_tbl := tb5 (List.mem_of_getElem? (i := 132) rfl)
theorem lX4_192 : Cond.methodLink RX4 192 yX4_isTaken ∈ lw_tbl := tb5 (List.mem_of_getElem? (i := 144) rfl)
theorem lX4_157 : Cond.methodLink RX4 157 yX4_fits ∈ lw_tbl := tb5 (List.mem_of_getElem? (i := 105) rfl)
theorem fX4_160 : FLk RX4 160 3 6 2 := ⟨RX3, TX3, 19, rfl, by decide, viX3, tb3 (List.mem_of_getElem? (i := 10) rfl), rfl⟩
theorem lX4_166 : Cond.methodLink RX4 166 yX7_find ∈ lw_tbl := tb5 (List.mem_of_getElem? (i := 127) rfl)
theorem lX4_170 : Cond.methodLink RX4 170 yX4_judgeAttribute ∈ lw_tbl := tb5 (List.mem_of_getElem? (i := 128) rfl)
theorem fX4_177 : FLk RX4 177 7 0 2 := ⟨RX7, TX7, 13, rfl, by decide, viX7, tb2 (List.mem_of_getElem? (i := 158) rfl), rfl⟩
theorem lX4_180 : Cond.methodLink RX4 180 yX3_attributeOf ∈ lw_tbl := tb5 (List.mem_of_getElem? (i := 148) rfl)
theorem fX4_25 : FLk RX4 25 3 17 0 := ⟨RX3, TX3, 19, rfl, by decide, viX3, tb3 (List.mem_of_getElem? (i := 46) rfl), rfl⟩
theorem lX4_30 : Cond.methodLink RX4 30 yX4_judgeDeclarations ∈ lw_tbl := tb5 (List.mem_of_getElem? (i := 51) rfl)
theorem fX4_41 : FLk RX4 41 3 16 0 := ⟨RX3, TX3, 19, rfl, by decide, viX3, tb3 (List.mem_of_getElem? (i := 43) rfl), rfl⟩
theorem lX4_45 : Cond.methodLink RX4 45 yX4_judgeElement ∈ lw_tbl := tb5 (List.mem_of_getElem? (i := 101) rfl)
theorem lX11_85 : Cond.methodLink RX11 85 yX1_begin ∈ lw_tbl := tb3 (List.mem_of_getElem? (i := 139) rfl)
theorem fX11_71 : FLk RX11 71 11 9 2 := ⟨RX11, TX11, 12, rfl, by decide, viX11, tb3 (List.mem_of_getElem? (i := 99) rfl), rfl⟩
theorem lX11_89 : Cond.methodLink RX11 89 yX3_begin ∈ lw_tbl := tb3 (List.mem_of_getElem? (i := 149) rfl)
theorem lX11_90 : Cond.methodLink RX11 90 yX1_skipComments ∈ lw_tbl := tb3 (List.mem_of_getElem? (i := 166) rfl)
theorem fX11_25 : FLk RX11 25 11 2 2 := ⟨RX11, TX11, 12, rfl, by decide, viX11, tb3 (List.mem_of_getElem? (i := 92) rfl), rfl⟩
theorem lX11_94 : Cond.methodLink RX11 94 yX2_readDoctype ∈ lw_tbl := tb4 (List.mem_of_getElem? (i := 11) rfl)
theorem fX11_32 : FLk RX11 32 11 3 2 := ⟨RX11, TX11, 12, rfl, by decide, viX11, tb3 (List.mem_of_getElem? (i := 93) rfl), rfl⟩
theorem lX11_98 : Cond.methodLink RX11 98 yX10_readTree ∈ lw_tbl := tb4 (List.mem_of_getElem? (i := 202) rfl)
theorem lX11_101 : Cond.methodLink RX11 101 yX1_needEnd ∈ lw_tbl := tb5 (List.mem_of_getElem? (i := 43) rfl)
theorem fX11_104 : FLk RX11 104 1 6 0 := ⟨RX1, TX1, 7, rfl, by decide, viX1, tb1 (List.mem_of_getElem? (i := 56) rfl), rfl⟩
theorem fX11_107 : FLk RX11 107 1 5 0 := ⟨RX1, TX1, 7, rfl, by decide, viX1, tb1 (List.mem_of_getElem? (i := 54) rfl), rfl⟩
theorem fX11_67 : FLk RX11 67 11 8 2 := ⟨RX11, TX11, 12, rfl, by decide, viX11, tb3 (List.mem_of_getElem? (i := 98) rfl), rfl⟩
theorem fX11_39 : FLk RX11 39 11 4 2 := ⟨RX11, TX11, 12, rfl, by decide, viX11, tb3 (List.mem_of_getElem? (i := 94) rfl), rfl⟩
theorem lX11_110 : Cond.methodLink RX11 110 yX4_judge ∈ lw_tbl := tb5 (List.mem_of_getElem? (i := 47) rfl)
theorem fX11_53 : FLk RX11 53 11 6 2 := ⟨RX11, TX11, 12, rfl, by decide, viX11, tb3 (List.mem_of_getElem? (i := 96) rfl), rfl⟩
theorem lX11_113 : Cond.methodLink RX11 113 yX8_forget ∈ lw_tbl := tb5 (List.mem_of_getElem? (i := 149) rfl)
theorem fX11_60 : FLk RX11 60 11 7 2 := ⟨RX11, TX11, 12, rfl, by decide, viX11, tb3 (List.mem_of_getElem? (i := 97) rfl), rfl⟩
theorem lX11_116 : Cond.methodLink RX11 116 yX0_forget ∈ lw_tbl := tb5 (List.mem_of_getElem? (i := 153) rfl)
theorem fX11_117 : FLk RX11 117 3 16 0 := ⟨RX3, TX3, 19, rfl, by decide, viX3, tb3 (List.mem_of_getElem? (i := 42) rfl), rfl⟩
theorem fX12_13 : FLk RX12 13 12 2 2 := ⟨RX12, TX12, 102, rfl, by decide, viX12, tb6 (List.mem_of_getElem? (i := 154) rfl), rfl⟩
theorem pX12_249 : PLk RX12 249 12 3 0 .int false := ⟨RX12, TX12, 102, tyX12, rfl, by decide, viX12, tb6 (List.mem_of_getElem? (i := 155) rfl), rfl, tyX12_ok, nmX12, rfl, (fun h => by first | rfl | (cases h)), by decide +kernel⟩
theorem pX12_276 : PLk RX12 276 12 4 0 .int false := ⟨RX12, TX12, 102, tyX12, rfl, by decide, viX12, tb6 (List.mem_of_getElem? (i := 156) rfl), rfl, tyX12_ok, nmX12, rfl, (fun h => by first | rfl | (cases h)), by decide +kernel⟩
theorem pX12_246 : PLk RX12 246 12 5 0 .int false := ⟨RX12, TX12, 102, tyX12, rfl, by decide, viX12, tb6 (List.mem_of_getElem? (i := 157) rfl), rfl, tyX12_ok, nmX12, rfl, (fun h => by first | rfl | (cases h)), by decide +kernel⟩
theorem fX12_246 : FLk RX12 246 12 5 0 := ⟨RX12, TX12, 102, rfl, by decide, viX12, tb6 (List.mem_of_getElem? (i := 157) rfl), rfl⟩
theorem lX12_289 : Cond.methodLink RX12 289 yX12_isGood ∈ lw_tbl := tb7 (List.mem_of_getElem? (i := 234) rfl)
theorem fX12_27 : FLk RX12 27 12 12 2 := ⟨RX12, TX12, 102, rfl, by decide, viX12, tb6 (List.mem_of_getElem? (i := 164) rfl), rfl⟩
theorem fX12_328 : FLk RX12 328 12 8 0 := ⟨RX12, TX12, 102, rfl, by decide, viX12, tb6 (List.mem_of_getElem? (i := 160) rfl), rfl⟩
theorem lX12_293 : Cond.methodLink RX12 293 yX12_fail ∈ lw_tbl := tb7 (List.mem_of_getElem? (i := 238) rfl)
theorem fX12_31 : FLk RX12 31 12 13 2 := ⟨RX12, TX12, 102, rfl, by decide, viX12, tb6 (List.mem_of_getElem? (i := 165) rfl), rfl⟩
theorem fX12_34 : FLk RX12 34 12 14 2 := ⟨RX12, TX12, 102, rfl, by decide, viX12, tb6 (List.mem_of_getElem? (i := 166) rfl), rfl⟩
theorem fX12_443 : FLk RX12 443 12 64 0 := ⟨RX12, TX12, 102, rfl, by decide, viX12, tb6 (List.mem_of_getElem? (i := 215) rfl), rfl⟩
theorem fX12_161 : FLk RX12 161 12 63 2 := ⟨RX12, TX12, 102, rfl, by decide, viX12, tb6 (List.mem_of_getElem? (i := 214) rfl), rfl⟩
theorem fX12_37 : FLk RX12 37 12 15 2 := ⟨RX12, TX12, 102, rfl, by decide, viX12, tb6 (List.mem_of_getElem? (i := 167) rfl), rfl⟩
theorem fX12_40 : FLk RX12 40 12 16 2 := ⟨RX12, TX12, 102, rfl, by decide, viX12, tb6 (List.mem_of_getElem? (i := 168) rfl), rfl⟩
theorem fX12_43 : FLk RX12 43 12 17 2 := ⟨RX12, TX12, 102, rfl, by decide, viX12, tb6 (List.mem_of_getElem? (i := 169) rfl), rfl⟩
theorem fX12_46 : FLk RX12 46 12 18 2 := ⟨RX12, TX12, 102, rfl, by decide, viX12, tb6 (List.mem_of_getElem? (i := 170) rfl), rfl⟩
theorem fX12_49 : FLk RX12 49 12 19 2 := ⟨RX12, TX12, 102, rfl, by decide, viX12, tb6 (List.mem_of_getElem? (i := 171) rfl), rfl⟩
theorem fX12_52 : FLk RX12 52 12 20 2 := ⟨RX12, TX12, 102, rfl, by decide, viX12, tb6 (List.mem_of_getElem? (i := 172) rfl), rfl⟩
theorem fX12_249 : FLk RX12 249 12 3 0 := ⟨RX12, TX12, 102, rfl, by decide, viX12, tb6 (List.mem_of_getElem? (i := 155) rfl), rfl⟩
theorem fX12_276 : FLk RX12 276 12 4 0 := ⟨RX12, TX12, 102, rfl, by decide, viX12, tb6 (List.mem_of_getElem? (i := 156) rfl), rfl⟩
theorem lX12_279 : Cond.methodLink RX12 279 yX12_octet ∈ lw_tbl := tb8 (List.mem_of_getElem? (i := 10) rfl)
theorem lX12_297 : Cond.methodLink RX12 297 yX12_isS ∈ lw_tbl := tb8 (List.mem_of_getElem? (i := 14) rfl)
theorem cX12_283 : Cond.constantLong RX12 283 (Int64.ofInt (255)) ∈ lw_tbl := tb8 (List.mem_of_getElem? (i := 22) rfl)
theorem cX12_252 : Cond.constantLong RX12 252 (Int64.ofInt (32)) ∈ lw_tbl := tb8 (List.mem_of_getElem? (i := 31) rfl)
theorem cX12_254 : Cond.constantLong RX12 254 (Int64.ofInt (126)) ∈ lw_tbl := tb8 (List.mem_of_getElem? (i := 32) rfl)
theorem lX12_256 : Cond.methodLink RX12 256 yX12_in ∈ lw_tbl := tb7 (List.mem_of_getElem? (i := 223) rfl)
theorem cX12_338 : Cond.constantLong RX12 338 (Int64.ofInt (11565)) ∈ lw_tbl := tb8 (List.mem_of_getElem? (i := 27) rfl)
theorem lX12_285 : Cond.methodLink RX12 285 yX12_stands ∈ lw_tbl := tb8 (List.mem_of_getElem? (i := 18) rfl)
theorem lX12_313 : Cond.methodLink RX12 313 yX12_isChar ∈ lw_tbl := tb8 (List.mem_of_getElem? (i := 28) rfl)
theorem lX12_340 : Cond.methodLink RX12 340 yX12_passes ∈ lw_tbl := tb8 (List.mem_of_getElem? (i := 33) rfl)
theorem lX12_300 : Cond.methodLink RX12 300 yX12_maybeS ∈ lw_tbl := tb8 (List.mem_of_getElem? (i := 6) rfl)
theorem cX12_343 : Cond.constantLong RX12 343 (Int64.ofInt (1008807213)) ∈ lw_tbl := tb8 (List.mem_of_getElem? (i := 17) rfl)
theorem lX12_345 : Cond.methodLink RX12 345 yX12_comment ∈ lw_tbl := tb8 (List.mem_of_getElem? (i := 23) rfl)
theorem cX12_260 : Cond.constantLong RX12 260 (Int64.ofInt (97)) ∈ lw_tbl := tb8 (List.mem_of_getElem? (i := 58) rfl)
theorem cX12_262 : Cond.constantLong RX12 262 (Int64.ofInt (122)) ∈ lw_tbl := tb8 (List.mem_of_getElem? (i := 59) rfl)
theorem cX12_264 : Cond.constantLong RX12 264 (Int64.ofInt (65)) ∈ lw_tbl := tb8 (List.mem_of_getElem? (i := 60) rfl)
theorem cX12_266 : Cond.constantLong RX12 266 (Int64.ofInt (90)) ∈ lw_tbl := tb8 (List.mem_of_getElem? (i := 61) rfl)
theorem lX12_268 : Cond.methodLink RX12 268 yX12_isFirst ∈ lw_tbl := tb8 (List.mem_of_getElem? (i := 55) rfl)
theorem cX12_272 : Cond.constantLong RX12 272 (Int64.ofInt (48)) ∈ lw_tbl := tb8 (List.mem_of_getElem? (i := 65) rfl)
theorem cX12_274 : Cond.constantLong RX12 274 (Int64.ofInt (57)) ∈ lw_tbl := tb8 (List.mem_of_getElem? (i := 66) rfl)
theorem lX12_303 : Cond.methodLink RX12 303 yX12_isNext ∈ lw_tbl := tb8 (List.mem_of_getElem? (i := 62) rfl)
theorem pX12_306 : PLk RX12 306 12 51 0 .int false := ⟨RX12, TX12, 102, tyX12, rfl, by decide, viX12, tb6 (List.mem_of_getElem? (i := 203) rfl), rfl, tyX12_ok, nmX12, rfl, (fun h => by first | rfl | (cases h)), by decide +kernel⟩
theorem fX12_306 : FLk RX12 306 12 51 0 := ⟨RX12, TX12, 102, rfl, by decide, viX12, tb6 (List.mem_of_getElem? (i := 203) rfl), rfl⟩
theorem lX12_351 : Cond.methodLink RX12 351 yX12_takeName ∈ lw_tbl := tb8 (List.mem_of_getElem? (i := 51) rfl)
theorem fX12_82 : FLk RX12 82 12 30 2 := ⟨RX12, TX12, 102, rfl, by decide, viX12, tb6 (List.mem_of_getElem? (i := 182) rfl), rfl⟩
theorem fX12_85 : FLk RX12 85 12 31 2 := ⟨RX12, TX12, 102, rfl, by decide, viX12, tb6 (List.mem_of_getElem? (i := 183) rfl), rfl⟩
theorem fX12_88 : FLk RX12 88 12 32 2 := ⟨RX12, TX12, 102, rfl, by decide, viX12, tb6 (List.mem_of_getElem? (i := 184) rfl), rfl⟩
theorem fX12_101 : FLk RX12 101 12 36 2 := ⟨RX12, TX12, 102, rfl, by decide, viX12, tb6 (List.mem_of_getElem? (i := 188) rfl), rfl⟩
theorem fX12_79 : FLk RX12 79 12 29 2 := ⟨RX12, TX12, 102, rfl, by decide, viX12, tb6 (List.mem_of_getElem? (i := 181) rfl), rfl⟩
theorem lX12_383 : Cond.methodLink RX12 383 yX12_specName ∈ lw_tbl := tb8 (List.mem_of_getElem? (i := 80) rfl)
theorem fX12_146 : FLk RX12 146 12 54 2 := ⟨RX12, TX12, 102, rfl, by decide, viX12, tb6 (List.mem_of_getElem? (i := 205) rfl), rfl⟩
theorem fX12_149 : FLk RX12 149 12 55 2 := ⟨RX12, TX12, 102, rfl, by decide, viX12, tb6 (List.mem_of_getElem? (i := 206) rfl), rfl⟩
theorem fX12_386 : FLk RX12 386 12 61 1 := ⟨RX12, TX12, 102, rfl, by decide, viX12, tb6 (List.mem_of_getElem? (i := 212) rfl), rfl⟩
theorem fX12_390 : FLk RX12 390 12 60 1 := ⟨RX12, TX12, 102, rfl, by decide, viX12, tb6 (List.mem_of_getElem? (i := 211) rfl), rfl⟩
theorem lX12_393 : Cond.methodLink RX12 393 yX12_joinFollows ∈ lw_tbl := tb8 (List.mem_of_getElem? (i := 96) rfl)
theorem fX12_397 : FLk RX12 397 12 59 0 := ⟨RX12, TX12, 102, rfl, by decide, viX12, tb6 (List.mem_of_getElem? (i := 210) rfl), rfl⟩
theorem pX12_397 : PLk RX12 397 12 59 0 .boolean false := ⟨RX12, TX12, 102, tyX12, rfl, by decide, viX12, tb6 (List.mem_of_getElem? (i := 210) rfl), rfl, tyX12_ok, nmX12, rfl, (fun h => by first | rfl | (cases h)), by decide +kernel⟩
theorem fX12_152 : FLk RX12 152 12 56 2 := ⟨RX12, TX12, 102, rfl, by decide, viX12, tb6 (List.mem_of_getElem? (i := 207) rfl), rfl⟩
theorem fX12_155 : FLk RX12 155 12 57 2 := ⟨RX12, TX12, 102, rfl, by decide, viX12, tb6 (List.mem_of_getElem? (i := 208) rfl), rfl⟩
theorem fX12_158 : FLk RX12 158 12 58 2 := ⟨RX12, TX12, 102, rfl, by decide, viX12, tb6 (List.mem_of_getElem? (i := 209) rfl), rfl⟩
theorem lX12_400 : Cond.methodLink RX12 400 yX12_openGroup ∈ lw_tbl := tb8 (List.mem_of_getElem? (i := 88) rfl)
theorem pX12_390 : PLk RX12 390 12 60 1 .long false := ⟨RX12, TX12, 102, tyX12, rfl, by decide, viX12, tb6 (List.mem_of_getElem? (i := 211) rfl), rfl, tyX12_ok, nmX12, rfl, (fun h => by first | rfl | (cases h)), by decide +kernel⟩
theorem pX12_386 : PLk RX12 386 12 61 1 .long false := ⟨RX12, TX12, 102, tyX12, rfl, by decide, viX12, tb6 (List.mem_of_getElem? (i := 212) rfl), rfl, tyX12_ok, nmX12, rfl, (fun h => by first | rfl | (cases h)), by decide +kernel⟩
theorem lX12_403 : Cond.methodLink RX12 403 yX12_mark ∈ lw_tbl := tb8 (List.mem_of_getElem? (i := 92) rfl)
theorem lX12_406 : Cond.methodLink RX12 406 yX12_comes ∈ lw_tbl := tb8 (List.mem_of_getElem? (i := 100) rfl)
theorem fX12_91 : FLk RX12 91 12 33 2 := ⟨RX12, TX12, 102, rfl, by decide, viX12, tb6 (List.mem_of_getElem? (i := 185) rfl), rfl⟩
theorem fX12_95 : FLk RX12 95 12 34 2 := ⟨RX12, TX12, 102, rfl, by decide, viX12, tb6 (List.mem_of_getElem? (i := 186) rfl), rfl⟩
theorem fX12_98 : FLk RX12 98 12 35 2 := ⟨RX12, TX12, 102, rfl, by decide, viX12, tb6 (List.mem_of_getElem? (i := 187) rfl), rfl⟩
theorem fX12_70 : FLk RX12 70 12 26 2 := ⟨RX12, TX12, 102, rfl, by decide, viX12, tb6 (List.mem_of_getElem? (i := 178) rfl), rfl⟩
theorem lX12_348 : Cond.methodLink RX12 348 yX12_mustS ∈ lw_tbl := tb8 (List.mem_of_getElem? (i := 47) rfl)
theorem fX12_73 : FLk RX12 73 12 27 2 := ⟨RX12, TX12, 102, rfl, by decide, viX12, tb6 (List.mem_of_getElem? (i := 179) rfl), rfl⟩
theorem fX12_76 : FLk RX12 76 12 28 2 := ⟨RX12, TX12, 102, rfl, by decide, viX12, tb6 (List.mem_of_getElem? (i := 180) rfl), rfl⟩
theorem cX12_370 : Cond.constantLong RX12 370 (Int64.ofInt (297649853529)) ∈ lw_tbl := tb8 (List.mem_of_getElem? (i := 73) rfl)
theorem cX12_372 : Cond.constantLong RX12 372 (Int64.ofInt (4279897)) ∈ lw_tbl := tb8 (List.mem_of_getElem? (i := 74) rfl)
theorem cX12_374 : Cond.constantLong RX12 374 (Int64.ofInt (9939874023035969)) ∈ lw_tbl := tb8 (List.mem_of_getElem? (i := 75) rfl)
theorem lX12_376 : Cond.methodLink RX12 376 yX12_mixed ∈ lw_tbl := tb8 (List.mem_of_getElem? (i := 76) rfl)
theorem lX12_380 : Cond.methodLink RX12 380 yX12_group ∈ lw_tbl := tb8 (List.mem_of_getElem? (i := 84) rfl)
theorem fX12_140 : FLk RX12 140 12 49 2 := ⟨RX12, TX12, 102, rfl, by decide, viX12, tb6 (List.mem_of_getElem? (i := 201) rfl), rfl⟩
theorem fX12_143 : FLk RX12 143 12 50 2 := ⟨RX12, TX12, 102, rfl, by decide, viX12, tb6 (List.mem_of_getElem? (i := 202) rfl), rfl⟩
theorem fX12_24 : FLk RX12 24 12 11 2 := ⟨RX12, TX12, 102, rfl, by decide, viX12, tb6 (List.mem_of_getElem? (i := 163) rfl), rfl⟩
theorem pX12_409 : PLk RX12 409 12 62 0 .int false := ⟨RX12, TX12, 102, tyX12, rfl, by decide, viX12, tb6 (List.mem_of_getElem? (i := 213) rfl), rfl, tyX12_ok, nmX12, rfl, (fun h => by first | rfl | (cases h)), by decide +kernel⟩
theorem fX12_104 : FLk RX12 104 12 37 2 := ⟨RX12, TX12, 102, rfl, by decide, viX12, tb6 (List.mem_of_getElem? (i := 189) rfl), rfl⟩
theorem fX12_107 : FLk RX12 107 12 38 2 := ⟨RX12, TX12, 102, rfl, by decide, viX12, tb6 (List.mem_of_getElem? (i := 190) rfl), rfl⟩
theorem fX12_110 : FLk RX12 110 12 39 2 := ⟨RX12, TX12, 102, rfl, by decide, viX12, tb6 (List.mem_of_getElem? (i := 191) rfl), rfl⟩
theorem lX12_412 : Cond.methodLink RX12 412 yX12_isSame ∈ lw_tbl := tb8 (List.mem_of_getElem? (i := 117) rfl)
theorem fX12_409 : FLk RX12 409 12 62 0 := ⟨RX12, TX12, 102, rfl, by decide, viX12, tb6 (List.mem_of_getElem? (i := 213) rfl), rfl⟩
theorem fX12_113 : FLk RX12 113 12 40 2 := ⟨RX12, TX12, 102, rfl, by decide, viX12, tb6 (List.mem_of_getElem? (i := 192) rfl), rfl⟩
theorem fX12_116 : FLk RX12 116 12 41 2 := ⟨RX12, TX12, 102, rfl, by decide, viX12, tb6 (List.mem_of_getElem? (i := 193) rfl), rfl⟩
theorem fX12_131 : FLk RX12 131 12 46 2 := ⟨RX12, TX12, 102, rfl, by decide, viX12, tb6 (List.mem_of_getElem? (i := 198) rfl), rfl⟩
theorem fX12_134 : FLk RX12 134 12 47 2 := ⟨RX12, TX12, 102, rfl, by decide, viX12, tb6 (List.mem_of_getElem? (i := 199) rfl), rfl⟩
theorem fX12_137 : FLk RX12 137 12 48 2 := ⟨RX12, TX12, 102, rfl, by decide, viX12, tb6 (List.mem_of_getElem? (i := 200) rfl), rfl⟩
theorem pX12_309 : PLk RX12 309 12 52 0 .boolean false := ⟨RX12, TX12, 102, tyX12, rfl, by decide, viX12, tb6 (List.mem_of_getElem? (i := 204) rfl), rfl, tyX12_ok, nmX12, rfl, (fun h => by first | rfl | (cases h)), by decide +kernel⟩
theorem fX12_309 : FLk RX12 309 12 52 0 := ⟨RX12, TX12, 102, rfl, by decide, viX12, tb6 (List.mem_of_getElem? (i := 204) rfl), rfl⟩
theorem cX12_316 : Cond.constantLong RX12 316 (Int64.ofInt (7107643)) ∈ lw_tbl := tb8 (List.mem_of_getElem? (i := 143) rfl)
theorem cX12_318 : Cond.constantLong RX12 318 (Int64.ofInt (6779963)) ∈ lw_tbl := tb8 (List.mem_of_getElem? (i := 144) rfl)
theorem cX12_320 : Cond.constantLong RX12 320 (Int64.ofInt (1634562107)) ∈ lw_tbl := tb8 (List.mem_of_getElem? (i := 145) rfl)
theorem cX12_322 : Cond.constantLong RX12 322 (Int64.ofInt (487301542971)) ∈ lw_tbl := tb8 (List.mem_of_getElem? (i := 146) rfl)
theorem cX12_324 : Cond.constantLong RX12 324 (Int64.ofInt (418498179899)) ∈ lw_tbl := tb8 (List.mem_of_getElem? (i := 147) rfl)
theorem cX12_326 : Cond.constantLong RX12 326 (Int64.ofInt (6)) ∈ lw_tbl := tb8 (List.mem_of_getElem? (i := 148) rfl)
theorem fX12_58 : FLk RX12 58 12 22 2 := ⟨RX12, TX12, 102, rfl, by decide, viX12, tb6 (List.mem_of_getElem? (i := 174) rfl), rfl⟩
theorem fX12_55 : FLk RX12 55 12 21 2 := ⟨RX12, TX12, 102, rfl, by decide, viX12, tb6 (List.mem_of_getElem? (i := 173) rfl), rfl⟩
theorem lX12_331 : Cond.methodLink RX12 331 yX12_takePiece ∈ lw_tbl := tb8 (List.mem_of_getElem? (i := 139) rfl)
theorem lX12_335 : Cond.methodLink RX12 335 yX12_keep ∈ lw_tbl := tb8 (List.mem_of_getElem? (i := 149) rfl)
theorem fX12_122 : FLk RX12 122 12 43 2 := ⟨RX12, TX12, 102, rfl, by decide, viX12, tb6 (List.mem_of_getElem? (i := 195) rfl), rfl⟩
theorem cX12_432 : Cond.constantLong RX12 432 (Int64.ofInt (2545172955043287621)) ∈ lw_tbl := tb8 (List.mem_of_getElem? (i := 131) rfl)
theorem cX12_434 : Cond.constantLong RX12 434 (Int64.ofInt (68)) ∈ lw_tbl := tb8 (List.mem_of_getElem? (i := 132) rfl)
theorem lX12_358 : Cond.methodLink RX12 358 yX12_stands2 ∈ lw_tbl := tb8 (List.mem_of_getElem? (i := 39) rfl)
theorem cX12_436 : Cond.constantLong RX12 436 (Int64.ofInt (2542648471899948356)) ∈ lw_tbl := tb8 (List.mem_of_getElem? (i := 133) rfl)
theorem cX12_438 : Cond.constantLong RX12 438 (Int64.ofInt (38784785204548)) ∈ lw_tbl := tb8 (List.mem_of_getElem? (i := 134) rfl)
theorem fX12_125 : FLk RX12 125 12 44 2 := ⟨RX12, TX12, 102, rfl, by decide, viX12, tb6 (List.mem_of_getElem? (i := 196) rfl), rfl⟩
theorem lX12_440 : Cond.methodLink RX12 440 yX12_value ∈ lw_tbl := tb8 (List.mem_of_getElem? (i := 135) rfl)
theorem fX12_128 : FLk RX12 128 12 45 2 := ⟨RX12, TX12, 102, rfl, by decide, viX12, tb6 (List.mem_of_getElem? (i := 197) rfl), rfl⟩
theorem lX12_419 : Cond.methodLink RX12 419 yX12_hasRule ∈ lw_tbl := tb8 (List.mem_of_getElem? (i := 113) rfl)
theorem cX12_422 : Cond.constantLong RX12 422 (Int64.ofInt (288907940929)) ∈ lw_tbl := tb8 (List.mem_of_getElem? (i := 121) rfl)
theorem fX12_119 : FLk RX12 119 12 42 2 := ⟨RX12, TX12, 102, rfl, by decide, viX12, tb6 (List.mem_of_getElem? (i := 194) rfl), rfl⟩
theorem cX12_424 : Cond.constantLong RX12 424 (Int64.ofInt (18756)) ∈ lw_tbl := tb8 (List.mem_of_getElem? (i := 122) rfl)
theorem lX12_426 : Cond.methodLink RX12 426 yX12_tokens ∈ lw_tbl := tb8 (List.mem_of_getElem? (i := 123) rfl)
theorem lX12_429 : Cond.methodLink RX12 429 yX12_defaults ∈ lw_tbl := tb8 (List.mem_of_getElem? (i := 127) rfl)
theorem lX12_416 : Cond.methodLink RX12 416 yX12_rule ∈ lw_tbl := tb8 (List.mem_of_getElem? (i := 109) rfl)
theorem fX12_20 : FLk RX12 20 12 10 2 := ⟨RX12, TX12, 102, rfl, by decide, viX12, tb6 (List.mem_of_getElem? (i := 162) rfl), rfl⟩
theorem fX12_64 : FLk RX12 64 12 24 2 := ⟨RX12, TX12, 102, rfl, by decide, viX12, tb6 (List.mem_of_getElem? (i := 176) rfl), rfl⟩
theorem fX12_67 : FLk RX12 67 12 25 2 := ⟨RX12, TX12, 102, rfl, by decide, viX12, tb6 (List.mem_of_getElem? (i := 177) rfl), rfl⟩
theorem cX12_354 : Cond.constantLong RX12 354 (Int64.ofInt (4332820510389650766)) ∈ lw_tbl := tb8 (List.mem_of_getElem? (i := 67) rfl)
theorem cX12_356 : Cond.constantLong RX12 356 (Int64.ofInt (84)) ∈ lw_tbl := tb8 (List.mem_of_getElem? (i := 68) rfl)
theorem lX12_362 : Cond.methodLink RX12 362 yX12_declaration ∈ lw_tbl := tb8 (List.mem_of_getElem? (i := 69) rfl)
theorem cX12_365 : Cond.constantLong RX12 365 (Int64.ofInt (4332816146954471763)) ∈ lw_tbl := tb8 (List.mem_of_getElem? (i := 104) rfl)
theorem lX12_367 : Cond.methodLink RX12 367 yX12_attributeList ∈ lw_tbl := tb8 (List.mem_of_getElem? (i := 105) rfl)
theorem lX12_458 : Cond.methodLink RX12 458 yX12_hasAttribute ∈ lw_tbl := tb8 (List.mem_of_getElem? (i := 161) rfl)
theorem lX12_462 : Cond.methodLink RX12 462 yX12_attributesOf ∈ lw_tbl := tb8 (List.mem_of_getElem? (i := 165) rfl)
theorem lX12_446 : Cond.methodLink RX12 446 yX12_newNode ∈ lw_tbl := tb7 (List.mem_of_getElem? (i := 230) rfl)
theorem pX12_443 : PLk RX12 443 12 64 0 .int false := ⟨RX12, TX12, 102, tyX12, rfl, by decide, viX12, tb6 (List.mem_of_getElem? (i := 215) rfl), rfl, tyX12_ok, nmX12, rfl, (fun h => by first | rfl | (cases h)), by decide +kernel⟩
theorem fX12_61 : FLk RX12 61 12 23 2 := ⟨RX12, TX12, 102, rfl, by decide, viX12, tb6 (List.mem_of_getElem? (i := 175) rfl), rfl⟩
theorem lX12_450 : Cond.methodLink RX12 450 yX12_attribute ∈ lw_tbl := tb8 (List.mem_of_getElem? (i := 157) rfl)
theorem cX12_453 : Cond.constantLong RX12 453 (Int64.ofInt (12094)) ∈ lw_tbl := tb8 (List.mem_of_getElem? (i := 169) rfl)
theorem lX12_455 : Cond.methodLink RX12 455 yX12_defaultsOf ∈ lw_tbl := tb8 (List.mem_of_getElem? (i := 170) rfl)
theorem cX12_465 : Cond.constantLong RX12 465 (Int64.ofInt (15407)) ∈ lw_tbl := tb8 (List.mem_of_getElem? (i := 178) rfl)
theorem lX12_467 : Cond.methodLink RX12 467 yX12_close ∈ lw_tbl := tb8 (List.mem_of_getElem? (i := 179) rfl)
theorem lX12_470 : Cond.methodLink RX12 470 yX12_element ∈ lw_tbl := tb8 (List.mem_of_getElem? (i := 153) rfl)
theorem lX12_473 : Cond.methodLink RX12 473 yX12_text ∈ lw_tbl := tb8 (List.mem_of_getElem? (i := 183) rfl)
theorem fX12_482 : FLk RX12 482 12 7 0 := ⟨RX12, TX12, 102, rfl, by decide, viX12, tb6 (List.mem_of_getElem? (i := 159) rfl), rfl⟩
theorem fX12_164 : FLk RX12 164 12 66 2 := ⟨RX12, TX12, 102, rfl, by decide, viX12, tb6 (List.mem_of_getElem? (i := 217) rfl), rfl⟩
theorem fX12_510 : FLk RX12 510 12 65 0 := ⟨RX12, TX12, 102, rfl, by decide, viX12, tb6 (List.mem_of_getElem? (i := 216) rfl), rfl⟩
theorem fX12_167 : FLk RX12 167 12 67 2 := ⟨RX12, TX12, 102, rfl, by decide, viX12, tb6 (List.mem_of_getElem? (i := 218) rfl), rfl⟩
theorem pX12_510 : PLk RX12 510 12 65 0 .int false := ⟨RX12, TX12, 102, tyX12, rfl, by decide, viX12, tb6 (List.mem_of_getElem? (i := 216) rfl), rfl, tyX12_ok, nmX12, rfl, (fun h => by first | rfl | (cases h)), by decide +kernel⟩
theorem lX12_513 : Cond.methodLink RX12 513 yX12_areAlike ∈ lw_tbl := tb8 (List.mem_of_getElem? (i := 207) rfl)
theorem lX12_516 : Cond.methodLink RX12 516 yX12_declOf ∈ lw_tbl := tb8 (List.mem_of_getElem? (i := 195) rfl)
theorem lX12_519 : Cond.methodLink RX12 519 yX12_tellFinding ∈ lw_tbl := tb8 (List.mem_of_getElem? (i := 199) rfl)
theorem lX12_522 : Cond.methodLink RX12 522 yX12_isDoubled ∈ lw_tbl := tb8 (List.mem_of_getElem? (i := 203) rfl)
theorem cX12_526 : Cond.constantLong RX12 526 (Int64.ofInt (-1)) ∈ lw_tbl := tb8 (List.mem_of_getElem? (i := 211) rfl)
theorem cX12_528 : Cond.constantLong RX12 528 (Int64.ofInt (20)) ∈ lw_tbl := tb8 (List.mem_of_getElem? (i := 224) rfl)
theorem lX12_530 : Cond.methodLink RX12 530 yX12_isName ∈ lw_tbl := tb8 (List.mem_of_getElem? (i := 220) rfl)
theorem lX12_534 : Cond.methodLink RX12 534 yX12_isOf ∈ lw_tbl := tb8 (List.mem_of_getElem? (i := 216) rfl)
theorem lX12_558 : Cond.methodLink RX12 558 yX12_named ∈ lw_tbl := tb8 (List.mem_of_getElem? (i := 233) rfl)
theorem lX12_546 : Cond.methodLink RX12 546 yX12_ruleFor ∈ lw_tbl := tb8 (List.mem_of_getElem? (i := 237) rfl)
theorem lX12_549 : Cond.methodLink RX12 549 yX12_areSameKept ∈ lw_tbl := tb9 (List.mem_of_getElem? (i := 1) rfl)
theorem lX12_552 : Cond.methodLink RX12 552 yX12_fits ∈ lw_tbl := tb8 (List.mem_of_getElem? (i := 229) rfl)
theorem lX12_555 : Cond.methodLink RX12 555 yX12_isTaken ∈ lw_tbl := tb9 (List.mem_of_getElem? (i := 5) rfl)
theorem lX12_537 : Cond.methodLink RX12 537 yX12_judgeDecl ∈ lw_tbl := tb8 (List.mem_of_getElem? (i := 191) rfl)
theorem lX12_540 : Cond.methodLink RX12 540 yX12_judgeRule ∈ lw_tbl := tb8 (List.mem_of_getElem? (i := 212) rfl)
theorem lX12_543 : Cond.methodLink RX12 543 yX12_judgeElement ∈ lw_tbl := tb8 (List.mem_of_getElem? (i := 225) rfl)
theorem lX12_479 : Cond.methodLink RX12 479 yX12_begin ∈ lw_tbl := tb7 (List.mem_of_getElem? (i := 226) rfl)
theorem pX12_328 : PLk RX12 328 12 8 0 .int false := ⟨RX12, TX12, 102, tyX12, rfl, by decide, viX12, tb6 (List.mem_of_getElem? (i := 160) rfl), rfl, tyX12_ok, nmX12, rfl, (fun h => by first | rfl | (cases h)), by decide +kernel⟩
theorem lX12_485 : Cond.methodLink RX12 485 yX12_misc ∈ lw_tbl := tb8 (List.mem_of_getElem? (i := 2) rfl)
theorem cX12_488 : Cond.constantLong RX12 488 (Int64.ofInt (4332819423729834320)) ∈ lw_tbl := tb8 (List.mem_of_getElem? (i := 37) rfl)
theorem cX12_490 : Cond.constantLong RX12 490 (Int64.ofInt (69)) ∈ lw_tbl := tb8 (List.mem_of_getElem? (i := 38) rfl)
theorem lX12_492 : Cond.methodLink RX12 492 yX12_doctype ∈ lw_tbl := tb8 (List.mem_of_getElem? (i := 43) rfl)
theorem lX12_495 : Cond.methodLink RX12 495 yX12_content ∈ lw_tbl := tb8 (List.mem_of_getElem? (i := 174) rfl)
theorem pX12_482 : PLk RX12 482 12 7 0 .int false := ⟨RX12, TX12, 102, tyX12, rfl, by decide, viX12, tb6 (List.mem_of_getElem? (i := 159) rfl), rfl, tyX12_ok, nmX12, rfl, (fun h => by first | rfl | (cases h)), by decide +kernel⟩
theorem pX12_498 : PLk RX12 498 12 9 0 .boolean false := ⟨RX12, TX12, 102, tyX12, rfl, by decide, viX12, tb6 (List.mem_of_getElem? (i := 161) rfl), rfl, tyX12_ok, nmX12, rfl, (fun h => by first | rfl | (cases h)), by decide +kernel⟩
theorem pX12_501 : PLk RX12 501 12 86 0 .int false := ⟨RX12, TX12, 102, tyX12, rfl, by decide, viX12, tb6 (List.mem_of_getElem? (i := 237) rfl), rfl, tyX12_ok, nmX12, rfl, (fun h => by first | rfl | (cases h)), by decide +kernel⟩
theorem pX12_504 : PLk RX12 504 12 68 0 .int false := ⟨RX12, TX12, 102, tyX12, rfl, by decide, viX12, tb6 (List.mem_of_getElem? (i := 219) rfl), rfl, tyX12_ok, nmX12, rfl, (fun h => by first | rfl | (cases h)), by decide +kernel⟩
theorem lX12_507 : Cond.methodLink RX12 507 yX12_judge ∈ lw_tbl := tb8 (List.mem_of_getElem? (i := 187) rfl)
theorem fX11_78 : FLk RX11 78 11 11 0 := ⟨RX11, TX11, 12, rfl, by decide, viX11, tb3 (List.mem_of_getElem? (i := 101) rfl), rfl⟩
theorem fX12_16 : FLk RX12 16 12 6 0 := ⟨RX12, TX12, 102, rfl, by decide, viX12, tb6 (List.mem_of_getElem? (i := 158) rfl), rfl⟩
theorem lX3_102 : Cond.methodLink RX3 102 yX5_lengthOf ∈ lw_tbl := tb5 (List.mem_of_getElem? (i := 170) rfl)
theorem lX11_120 : Cond.methodLink RX11 120 yX3_has ∈ lw_tbl := tb5 (List.mem_of_getElem? (i := 165) rfl)
theorem lX11_124 : Cond.methodLink RX11 124 yX3_about ∈ lw_tbl := tb5 (List.mem_of_getElem? (i := 166) rfl)
theorem fX12_498 : FLk RX12 498 12 9 0 := ⟨RX12, TX12, 102, rfl, by decide, viX12, tb6 (List.mem_of_getElem? (i := 161) rfl), rfl⟩
theorem lX12_603 : Cond.methodLink RX12 603 yX12_isWithin ∈ lw_tbl := tb9 (List.mem_of_getElem? (i := 38) rfl)
theorem lX12_664 : Cond.methodLink RX12 664 yX12_isNode ∈ lw_tbl := tb9 (List.mem_of_getElem? (i := 128) rfl)
theorem lX12_591 : Cond.methodLink RX12 591 yX12_stringOf ∈ lw_tbl := tb9 (List.mem_of_getElem? (i := 62) rfl)
theorem lX5_83 : Cond.methodLink RX5 83 yX5_lengthOf ∈ lw_tbl := tb5 (List.mem_of_getElem? (i := 182) rfl)
theorem fX11_128 : FLk RX11 128 3 0 2 := ⟨RX3, TX3, 19, rfl, by decide, viX3, tb2 (List.mem_of_getElem? (i := 223) rfl), rfl⟩
theorem fX11_132 : FLk RX11 132 3 5 2 := ⟨RX3, TX3, 19, rfl, by decide, viX3, tb3 (List.mem_of_getElem? (i := 5) rfl), rfl⟩
theorem lX11_136 : Cond.methodLink RX11 136 yX5_byteOf ∈ lw_tbl := tb5 (List.mem_of_getElem? (i := 178) rfl)
theorem lX11_141 : Cond.methodLink RX11 141 yX3_stringByte ∈ lw_tbl := tb5 (List.mem_of_getElem? (i := 187) rfl)
theorem lX12_594 : Cond.methodLink RX12 594 yX12_stringAt ∈ lw_tbl := tb9 (List.mem_of_getElem? (i := 66) rfl)
theorem fX11_144 : FLk RX11 144 3 17 0 := ⟨RX3, TX3, 19, rfl, by decide, viX3, tb3 (List.mem_of_getElem? (i := 47) rfl), rfl⟩
theorem fX11_147 : FLk RX11 147 4 3 0 := ⟨RX4, TX4, 4, rfl, by decide, viX4, tb1 (List.mem_of_getElem? (i := 138) rfl), rfl⟩
theorem lX11_148 : Cond.methodLink RX11 148 yX4_numberOf ∈ lw_tbl := tb5 (List.mem_of_getElem? (i := 199) rfl)
theorem lX11_152 : Cond.methodLink RX11 152 yX4_subjectOf ∈ lw_tbl := tb5 (List.mem_of_getElem? (i := 203) rfl)
theorem lX12_667 : Cond.methodLink RX12 667 yX12_findings ∈ lw_tbl := tb9 (List.mem_of_getElem? (i := 148) rfl)
theorem fX6_45 : FLk RX6 45 6 0 2 := ⟨RX6, TX6, 11, rfl, by decide, viX6, tb1 (List.mem_of_getElem? (i := 154) rfl), rfl⟩
theorem lX6_62 : Cond.methodLink RX6 62 yX1_peek ∈ lw_tbl := tb5 (List.mem_of_getElem? (i := 218) rfl)
theorem lX6_115 : Cond.methodLink RX6 115 yX1_isDigit ∈ lw_tbl := tb6 (List.mem_of_getElem? (i := 2) rfl)
theorem fX6_77 : FLk RX6 77 1 2 0 := ⟨RX1, TX1, 7, rfl, by decide, viX1, tb1 (List.mem_of_getElem? (i := 45) rfl), rfl⟩
theorem pX6_77 : PLk RX6 77 1 2 0 .int false := ⟨RX1, TX1, 7, tyX1, rfl, by decide, viX1, tb1 (List.mem_of_getElem? (i := 45) rfl), rfl, tyX1_ok, nmX1, rfl, (fun h => by first | rfl | (cases h)), by decide +kernel⟩
theorem lX6_80 : Cond.methodLink RX6 80 yX1_refuse ∈ lw_tbl := tb5 (List.mem_of_getElem? (i := 224) rfl)
theorem fX6_31 : FLk RX6 31 6 7 2 := ⟨RX6, TX6, 11, rfl, by decide, viX6, tb1 (List.mem_of_getElem? (i := 167) rfl), rfl⟩
theorem fX6_130 : FLk RX6 130 1 1 0 := ⟨RX1, TX1, 7, rfl, by decide, viX1, tb1 (List.mem_of_getElem? (i := 41) rfl), rfl⟩
theorem lX6_133 : Cond.methodLink RX6 133 yX1_isChar ∈ lw_tbl := tb6 (List.mem_of_getElem? (i := 13) rfl)
theorem fX6_34 : FLk RX6 34 6 8 2 := ⟨RX6, TX6, 11, rfl, by decide, viX6, tb1 (List.mem_of_getElem? (i := 169) rfl), rfl⟩
theorem cX6_136 : (RX6, 136, "\"", 39) ∈ strT := by decide +kernel
theorem cX6_138 : (RX6, 138, "'", 40) ∈ strT := by decide +kernel
theorem lX6_70 : Cond.methodLink RX6 70 yX1_take ∈ lw_tbl := tb5 (List.mem_of_getElem? (i := 227) rfl)
theorem fX6_28 : FLk RX6 28 6 6 2 := ⟨RX6, TX6, 11, rfl, by decide, viX6, tb1 (List.mem_of_getElem? (i := 165) rfl), rfl⟩
theorem fX6_25 : FLk RX6 25 6 5 2 := ⟨RX6, TX6, 11, rfl, by decide, viX6, tb1 (List.mem_of_getElem? (i := 163) rfl), rfl⟩
theorem lX6_118 : Cond.methodLink RX6 118 yX6_takeNumber ∈ lw_tbl := tb6 (List.mem_of_getElem? (i := 3) rfl)
theorem cX6_121 : (RX6, 121, "last()", 37) ∈ strT := by decide +kernel
theorem lX6_56 : Cond.methodLink RX6 56 yX1_takeIf ∈ lw_tbl := tb5 (List.mem_of_getElem? (i := 216) rfl)
theorem cX6_123 : (RX6, 123, ".=", 38) ∈ strT := by decide +kernel
theorem lX6_125 : Cond.methodLink RX6 125 yX6_readQuoted ∈ lw_tbl := tb6 (List.mem_of_getElem? (i := 9) rfl)
theorem cX6_90 : (RX6, 90, "@", 36) ∈ strT := by decide +kernel
theorem lX6_94 : Cond.methodLink RX6 94 yX1_needName ∈ lw_tbl := tb5 (List.mem_of_getElem? (i := 231) rfl)
theorem lX6_98 : Cond.methodLink RX6 98 yX5_find ∈ lw_tbl := tb5 (List.mem_of_getElem? (i := 232) rfl)
theorem cX6_128 : (RX6, 128, "=", 28) ∈ strT := by decide +kernel
theorem cX6_108 : (RX6, 108, "[", 4) ∈ strT := by decide +kernel
theorem lX6_110 : Cond.methodLink RX6 110 yX6_readBracket ∈ lw_tbl := tb5 (List.mem_of_getElem? (i := 238) rfl)
theorem cX6_113 : (RX6, 113, "]", 5) ∈ strT := by decide +kernel
theorem fX6_22 : FLk RX6 22 6 4 2 := ⟨RX6, TX6, 11, rfl, by decide, viX6, tb1 (List.mem_of_getElem? (i := 161) rfl), rfl⟩
theorem lX6_73 : Cond.methodLink RX6 73 yX1_startsName ∈ lw_tbl := tb5 (List.mem_of_getElem? (i := 223) rfl)
theorem fX6_37 : FLk RX6 37 6 9 0 := ⟨RX6, TX6, 11, rfl, by decide, viX6, tb1 (List.mem_of_getElem? (i := 171) rfl), rfl⟩
theorem fX6_18 : FLk RX6 18 6 3 2 := ⟨RX6, TX6, 11, rfl, by decide, viX6, tb1 (List.mem_of_getElem? (i := 159) rfl), rfl⟩
theorem fX6_15 : FLk RX6 15 6 2 2 := ⟨RX6, TX6, 11, rfl, by decide, viX6, tb1 (List.mem_of_getElem? (i := 157) rfl), rfl⟩
theorem fX6_11 : FLk RX6 11 6 1 2 := ⟨RX6, TX6, 11, rfl, by decide, viX6, tb1 (List.mem_of_getElem? (i := 155) rfl), rfl⟩
theorem cX6_84 : (RX6, 84, "..", 33) ∈ strT := by decide +kernel
theorem cX6_86 : (RX6, 86, ".", 34) ∈ strT := by decide +kernel
theorem cX6_88 : (RX6, 88, "text()", 35) ∈ strT := by decide +kernel
theorem cX6_92 : (RX6, 92, "*", 13) ∈ strT := by decide +kernel
theorem lX6_104 : Cond.methodLink RX6 104 yX6_readBrackets ∈ lw_tbl := tb5 (List.mem_of_getElem? (i := 233) rfl)
theorem cX6_54 : (RX6, 54, "//", 31) ∈ strT := by decide +kernel
theorem cX6_60 : (RX6, 60, "/", 32) ∈ strT := by decide +kernel
theorem fX6_41 : FLk RX6 41 6 10 0 := ⟨RX6, TX6, 11, rfl, by decide, viX6, tb1 (List.mem_of_getElem? (i := 173) rfl), rfl⟩
theorem lX6_66 : Cond.methodLink RX6 66 yX6_readStep ∈ lw_tbl := tb5 (List.mem_of_getElem? (i := 219) rfl)
theorem fX8_58 : FLk RX8 58 3 16 0 := ⟨RX3, TX3, 19, rfl, by decide, viX3, tb3 (List.mem_of_getElem? (i := 40) rfl), rfl⟩
theorem fX8_19 : FLk RX8 19 8 2 2 := ⟨RX8, TX8, 6, rfl, by decide, viX8, tb1 (List.mem_of_getElem? (i := 208) rfl), rfl⟩
theorem fX8_61 : FLk RX8 61 3 9 2 := ⟨RX3, TX3, 19, rfl, by decide, viX3, tb3 (List.mem_of_getElem? (i := 17) rfl), rfl⟩
theorem lX8_64 : Cond.methodLink RX8 64 Lib.Math.max.name ∈ lw_tbl := tb6 (List.mem_of_getElem? (i := 29) rfl)
theorem fX8_70 : FLk RX8 70 3 3 2 := ⟨RX3, TX3, 19, rfl, by decide, viX3, tb2 (List.mem_of_getElem? (i := 234) rfl), rfl⟩
theorem fX8_29 : FLk RX8 29 8 5 0 := ⟨RX8, TX8, 6, rfl, by decide, viX8, tb1 (List.mem_of_getElem? (i := 211) rfl), rfl⟩
theorem fX8_26 : FLk RX8 26 8 4 2 := ⟨RX8, TX8, 6, rfl, by decide, viX8, tb1 (List.mem_of_getElem? (i := 210) rfl), rfl⟩
theorem lX8_104 : Cond.methodLink RX8 104 yX3_firstIn ∈ lw_tbl := tb6 (List.mem_of_getElem? (i := 46) rfl)
theorem fX8_97 : FLk RX8 97 3 5 2 := ⟨RX3, TX3, 19, rfl, by decide, viX3, tb3 (List.mem_of_getElem? (i := 4) rfl), rfl⟩
theorem lX8_87 : Cond.methodLink RX8 87 yX8_push ∈ lw_tbl := tb6 (List.mem_of_getElem? (i := 38) rfl)
theorem fX8_83 : FLk RX8 83 6 2 2 := ⟨RX6, TX6, 11, rfl, by decide, viX6, tb1 (List.mem_of_getElem? (i := 158) rfl), rfl⟩
theorem fX8_86 : FLk RX8 86 6 1 2 := ⟨RX6, TX6, 11, rfl, by decide, viX6, tb1 (List.mem_of_getElem? (i := 156) rfl), rfl⟩
theorem fX8_91 : FLk RX8 91 3 4 2 := ⟨RX3, TX3, 19, rfl, by decide, viX3, tb2 (List.mem_of_getElem? (i := 238) rfl), rfl⟩
theorem fX8_94 : FLk RX8 94 3 6 2 := ⟨RX3, TX3, 19, rfl, by decide, viX3, tb3 (List.mem_of_getElem? (i := 8) rfl), rfl⟩
theorem lX8_100 : Cond.methodLink RX8 100 yX8_leadInto ∈ lw_tbl := tb6 (List.mem_of_getElem? (i := 42) rfl)
theorem fX6_49 : FLk RX6 49 1 0 2 := ⟨RX1, TX1, 7, rfl, by decide, viX1, tb1 (List.mem_of_getElem? (i := 36) rfl), rfl⟩
theorem fX8_124 : FLk RX8 124 6 8 2 := ⟨RX6, TX6, 11, rfl, by decide, viX6, tb1 (List.mem_of_getElem? (i := 170) rfl), rfl⟩
theorem fX8_127 : FLk RX8 127 3 11 2 := ⟨RX3, TX3, 19, rfl, by decide, viX3, tb3 (List.mem_of_getElem? (i := 28) rfl), rfl⟩
theorem fX8_130 : FLk RX8 130 3 10 2 := ⟨RX3, TX3, 19, rfl, by decide, viX3, tb3 (List.mem_of_getElem? (i := 23) rfl), rfl⟩
theorem lX8_133 : Cond.methodLink RX8 133 yX6_quotedBytes ∈ lw_tbl := tb6 (List.mem_of_getElem? (i := 59) rfl)
theorem fX8_137 : FLk RX8 137 6 7 2 := ⟨RX6, TX6, 11, rfl, by decide, viX6, tb1 (List.mem_of_getElem? (i := 168) rfl), rfl⟩
theorem lX8_140 : Cond.methodLink RX8 140 yX3_hasBytes ∈ lw_tbl := tb6 (List.mem_of_getElem? (i := 63) rfl)
theorem fX8_111 : FLk RX8 111 6 6 2 := ⟨RX6, TX6, 11, rfl, by decide, viX6, tb1 (List.mem_of_getElem? (i := 166) rfl), rfl⟩
theorem fX8_108 : FLk RX8 108 6 5 2 := ⟨RX6, TX6, 11, rfl, by decide, viX6, tb1 (List.mem_of_getElem? (i := 164) rfl), rfl⟩
theorem lX8_118 : Cond.methodLink RX8 118 yX8_isQuoted ∈ lw_tbl := tb6 (List.mem_of_getElem? (i := 55) rfl)
theorem lX8_121 : Cond.methodLink RX8 121 yX3_attributeOf ∈ lw_tbl := tb6 (List.mem_of_getElem? (i := 64) rfl)
theorem lX8_114 : Cond.methodLink RX8 114 yX8_passes ∈ lw_tbl := tb6 (List.mem_of_getElem? (i := 51) rfl)
theorem fX8_23 : FLk RX8 23 8 3 2 := ⟨RX8, TX8, 6, rfl, by decide, viX8, tb1 (List.mem_of_getElem? (i := 209) rfl), rfl⟩
theorem lX8_32 : Cond.methodLink RX8 32 yJ7_fill_031fb ∈ lw_tbl := tb6 (List.mem_of_getElem? (i := 22) rfl)
theorem lX8_73 : Cond.methodLink RX8 73 yX8_lead ∈ lw_tbl := tb6 (List.mem_of_getElem? (i := 34) rfl)
theorem fX8_77 : FLk RX8 77 6 4 2 := ⟨RX6, TX6, 11, rfl, by decide, viX6, tb1 (List.mem_of_getElem? (i := 162) rfl), rfl⟩
theorem lX8_80 : Cond.methodLink RX8 80 yX8_sift ∈ lw_tbl := tb6 (List.mem_of_getElem? (i := 47) rfl)
theorem fX8_38 : FLk RX8 38 6 10 0 := ⟨RX6, TX6, 11, rfl, by decide, viX6, tb1 (List.mem_of_getElem? (i := 174) rfl), rfl⟩
theorem fX8_44 : FLk RX8 44 6 9 0 := ⟨RX6, TX6, 11, rfl, by decide, viX6, tb1 (List.mem_of_getElem? (i := 172) rfl), rfl⟩
theorem fX8_47 : FLk RX8 47 6 3 2 := ⟨RX6, TX6, 11, rfl, by decide, viX6, tb1 (List.mem_of_getElem? (i := 160) rfl), rfl⟩
theorem lX8_50 : Cond.methodLink RX8 50 yX8_spread ∈ lw_tbl := tb6 (List.mem_of_getElem? (i := 25) rfl)
theorem lX8_54 : Cond.methodLink RX8 54 yX8_takeStep ∈ lw_tbl := tb6 (List.mem_of_getElem? (i := 30) rfl)
theorem fX8_9 : FLk RX8 9 8 0 2 := ⟨RX8, TX8, 6, rfl, by decide, viX8, tb1 (List.mem_of_getElem? (i := 204) rfl), rfl⟩
theorem fX8_15 : FLk RX8 15 8 1 0 := ⟨RX8, TX8, 6, rfl, by decide, viX8, tb1 (List.mem_of_getElem? (i := 206) rfl), rfl⟩
theorem fX11_46 : FLk RX11 46 11 5 2 := ⟨RX11, TX11, 12, rfl, by decide, viX11, tb3 (List.mem_of_getElem? (i := 95) rfl), rfl⟩
theorem lX11_155 : Cond.methodLink RX11 155 yX6_parse ∈ lw_tbl := tb5 (List.mem_of_getElem? (i := 211) rfl)
theorem lX11_159 : Cond.methodLink RX11 159 yX8_follow ∈ lw_tbl := tb6 (List.mem_of_getElem? (i := 18) rfl)
theorem fX11_163 : FLk RX11 163 8 1 0 := ⟨RX8, TX8, 6, rfl, by decide, viX8, tb1 (List.mem_of_getElem? (i := 207) rfl), rfl⟩
theorem fX12_209 : FLk RX12 209 12 82 2 := ⟨RX12, TX12, 102, rfl, by decide, viX12, tb6 (List.mem_of_getElem? (i := 233) rfl), rfl⟩
theorem fX12_212 : FLk RX12 212 12 83 2 := ⟨RX12, TX12, 102, rfl, by decide, viX12, tb6 (List.mem_of_getElem? (i := 234) rfl), rfl⟩
theorem fX12_194 : FLk RX12 194 12 77 2 := ⟨RX12, TX12, 102, rfl, by decide, viX12, tb6 (List.mem_of_getElem? (i := 228) rfl), rfl⟩
theorem fX12_206 : FLk RX12 206 12 81 2 := ⟨RX12, TX12, 102, rfl, by decide, viX12, tb6 (List.mem_of_getElem? (i := 232) rfl), rfl⟩
theorem fX12_197 : FLk RX12 197 12 78 2 := ⟨RX12, TX12, 102, rfl, by decide, viX12, tb6 (List.mem_of_getElem? (i := 229) rfl), rfl⟩
theorem fX12_200 : FLk RX12 200 12 79 2 := ⟨RX12, TX12, 102, rfl, by decide, viX12, tb6 (List.mem_of_getElem? (i := 230) rfl), rfl⟩
theorem cX12_562 : Cond.constantLong RX12 562 (Int64.ofInt (119165804619817)) ∈ lw_tbl := tb9 (List.mem_of_getElem? (i := 28) rfl)
theorem fX12_203 : FLk RX12 203 12 80 2 := ⟨RX12, TX12, 102, rfl, by decide, viX12, tb6 (List.mem_of_getElem? (i := 231) rfl), rfl⟩
theorem lX12_564 : Cond.methodLink RX12 564 yX12_quoted ∈ lw_tbl := tb9 (List.mem_of_getElem? (i := 29) rfl)
theorem cX12_567 : Cond.constantLong RX12 567 (Int64.ofInt (11837)) ∈ lw_tbl := tb9 (List.mem_of_getElem? (i := 33) rfl)
theorem fX12_569 : FLk RX12 569 12 84 0 := ⟨RX12, TX12, 102, rfl, by decide, viX12, tb6 (List.mem_of_getElem? (i := 235) rfl), rfl⟩
theorem pX12_569 : PLk RX12 569 12 84 0 .int false := ⟨RX12, TX12, 102, tyX12, rfl, by decide, viX12, tb6 (List.mem_of_getElem? (i := 235) rfl), rfl, tyX12_ok, nmX12, rfl, (fun h => by first | rfl | (cases h)), by decide +kernel⟩
theorem fX12_185 : FLk RX12 185 12 74 2 := ⟨RX12, TX12, 102, rfl, by decide, viX12, tb6 (List.mem_of_getElem? (i := 225) rfl), rfl⟩
theorem cX12_572 : Cond.constantLong RX12 572 (Int64.ofInt (11822)) ∈ lw_tbl := tb9 (List.mem_of_getElem? (i := 22) rfl)
theorem fX12_182 : FLk RX12 182 12 73 2 := ⟨RX12, TX12, 102, rfl, by decide, viX12, tb6 (List.mem_of_getElem? (i := 224) rfl), rfl⟩
theorem cX12_574 : Cond.constantLong RX12 574 (Int64.ofInt (127979161397289)) ∈ lw_tbl := tb9 (List.mem_of_getElem? (i := 23) rfl)
theorem fX12_188 : FLk RX12 188 12 75 2 := ⟨RX12, TX12, 102, rfl, by decide, viX12, tb6 (List.mem_of_getElem? (i := 226) rfl), rfl⟩
theorem fX12_191 : FLk RX12 191 12 76 2 := ⟨RX12, TX12, 102, rfl, by decide, viX12, tb6 (List.mem_of_getElem? (i := 227) rfl), rfl⟩
theorem lX12_576 : Cond.methodLink RX12 576 yX12_filter ∈ lw_tbl := tb9 (List.mem_of_getElem? (i := 24) rfl)
theorem pX12_579 : PLk RX12 579 12 85 0 .boolean false := ⟨RX12, TX12, 102, tyX12, rfl, by decide, viX12, tb6 (List.mem_of_getElem? (i := 236) rfl), rfl, tyX12_ok, nmX12, rfl, (fun h => by first | rfl | (cases h)), by decide +kernel⟩
theorem cX12_582 : Cond.constantLong RX12 582 (Int64.ofInt (12079)) ∈ lw_tbl := tb9 (List.mem_of_getElem? (i := 17) rfl)
theorem fX12_579 : FLk RX12 579 12 85 0 := ⟨RX12, TX12, 102, rfl, by decide, viX12, tb6 (List.mem_of_getElem? (i := 236) rfl), rfl⟩
theorem lX12_584 : Cond.methodLink RX12 584 yX12_step ∈ lw_tbl := tb9 (List.mem_of_getElem? (i := 18) rfl)
theorem lX12_588 : Cond.methodLink RX12 588 yX12_isCalled ∈ lw_tbl := tb9 (List.mem_of_getElem? (i := 46) rfl)
theorem lX12_597 : Cond.methodLink RX12 597 yX12_hasString ∈ lw_tbl := tb9 (List.mem_of_getElem? (i := 58) rfl)
theorem fX12_179 : FLk RX12 179 12 72 2 := ⟨RX12, TX12, 102, rfl, by decide, viX12, tb6 (List.mem_of_getElem? (i := 223) rfl), rfl⟩
theorem lX12_600 : Cond.methodLink RX12 600 yX12_passesFilter ∈ lw_tbl := tb9 (List.mem_of_getElem? (i := 54) rfl)
theorem fX12_176 : FLk RX12 176 12 71 2 := ⟨RX12, TX12, 102, rfl, by decide, viX12, tb6 (List.mem_of_getElem? (i := 222) rfl), rfl⟩
theorem fX12_173 : FLk RX12 173 12 70 2 := ⟨RX12, TX12, 102, rfl, by decide, viX12, tb6 (List.mem_of_getElem? (i := 221) rfl), rfl⟩
theorem lX12_606 : Cond.methodLink RX12 606 yX12_leads ∈ lw_tbl := tb9 (List.mem_of_getElem? (i := 42) rfl)
theorem lX12_609 : Cond.methodLink RX12 609 yX12_filterMine ∈ lw_tbl := tb9 (List.mem_of_getElem? (i := 50) rfl)
theorem lX12_612 : Cond.methodLink RX12 612 yX12_path ∈ lw_tbl := tb9 (List.mem_of_getElem? (i := 13) rfl)
theorem lX12_615 : Cond.methodLink RX12 615 yX12_goStep ∈ lw_tbl := tb9 (List.mem_of_getElem? (i := 34) rfl)
theorem fX12_170 : FLk RX12 170 12 69 2 := ⟨RX12, TX12, 102, rfl, by decide, viX12, tb6 (List.mem_of_getElem? (i := 220) rfl), rfl⟩
theorem fX12_504 : FLk RX12 504 12 68 0 := ⟨RX12, TX12, 102, rfl, by decide, viX12, tb6 (List.mem_of_getElem? (i := 219) rfl), rfl⟩
theorem fX11_164 : FLk RX11 164 8 0 2 := ⟨RX8, TX8, 6, rfl, by decide, viX8, tb1 (List.mem_of_getElem? (i := 205) rfl), rfl⟩
theorem fX0_47 : FLk RX0 47 0 11 0 := ⟨RX0, TX0, 18, rfl, by decide, viX0, tb2 (List.mem_of_getElem? (i := 6) rfl), rfl⟩
theorem fX0_62 : FLk RX0 62 0 16 0 := ⟨RX0, TX0, 18, rfl, by decide, viX0, tb2 (List.mem_of_getElem? (i := 11) rfl), rfl⟩
theorem fX0_19 : FLk RX0 19 0 2 2 := ⟨RX0, TX0, 18, rfl, by decide, viX0, tb1 (List.mem_of_getElem? (i := 233) rfl), rfl⟩
theorem fX0_44 : FLk RX0 44 0 10 0 := ⟨RX0, TX0, 18, rfl, by decide, viX0, tb2 (List.mem_of_getElem? (i := 5) rfl), rfl⟩
theorem fX0_15 : FLk RX0 15 0 1 2 := ⟨RX0, TX0, 18, rfl, by decide, viX0, tb1 (List.mem_of_getElem? (i := 232) rfl), rfl⟩
theorem fX0_28 : FLk RX0 28 0 5 2 := ⟨RX0, TX0, 18, rfl, by decide, viX0, tb1 (List.mem_of_getElem? (i := 239) rfl), rfl⟩
theorem fX0_50 : FLk RX0 50 0 12 0 := ⟨RX0, TX0, 18, rfl, by decide, viX0, tb2 (List.mem_of_getElem? (i := 7) rfl), rfl⟩
theorem fX0_9 : FLk RX0 9 0 0 2 := ⟨RX0, TX0, 18, rfl, by decide, viX0, tb1 (List.mem_of_getElem? (i := 231) rfl), rfl⟩
theorem fX0_144 : FLk RX0 144 3 13 2 := ⟨RX3, TX3, 19, rfl, by decide, viX3, tb3 (List.mem_of_getElem? (i := 33) rfl), rfl⟩
theorem lX0_162 : Cond.methodLink RX0 162 arraycopyName ∈ lw_tbl := tb6 (List.mem_of_getElem? (i := 98) rfl)
theorem fX0_53 : FLk RX0 53 0 13 0 := ⟨RX0, TX0, 18, rfl, by decide, viX0, tb2 (List.mem_of_getElem? (i := 8) rfl), rfl⟩
theorem fX0_56 : FLk RX0 56 0 14 0 := ⟨RX0, TX0, 18, rfl, by decide, viX0, tb2 (List.mem_of_getElem? (i := 9) rfl), rfl⟩
theorem lX0_156 : Cond.methodLink RX0 156 yX0_finishLine ∈ lw_tbl := tb6 (List.mem_of_getElem? (i := 90) rfl)
theorem lX0_159 : Cond.methodLink RX0 159 yX0_append ∈ lw_tbl := tb6 (List.mem_of_getElem? (i := 94) rfl)
theorem lX0_153 : Cond.methodLink RX0 153 yX0_endWord ∈ lw_tbl := tb6 (List.mem_of_getElem? (i := 86) rfl)
theorem lX0_141 : Cond.methodLink RX0 141 yX5_lengthOf ∈ lw_tbl := tb6 (List.mem_of_getElem? (i := 106) rfl)
theorem lX0_108 : Cond.methodLink RX0 108 yX5_byteOf ∈ lw_tbl := tb6 (List.mem_of_getElem? (i := 107) rfl)
theorem fX0_125 : FLk RX0 125 3 6 2 := ⟨RX3, TX3, 19, rfl, by decide, viX3, tb3 (List.mem_of_getElem? (i := 9) rfl), rfl⟩
theorem fX0_128 : FLk RX0 128 3 11 2 := ⟨RX3, TX3, 19, rfl, by decide, viX3, tb3 (List.mem_of_getElem? (i := 27) rfl), rfl⟩
theorem fX0_131 : FLk RX0 131 3 10 2 := ⟨RX3, TX3, 19, rfl, by decide, viX3, tb3 (List.mem_of_getElem? (i := 22) rfl), rfl⟩
theorem lX0_134 : Cond.methodLink RX0 134 yX3_stringByte ∈ lw_tbl := tb6 (List.mem_of_getElem? (i := 102) rfl)
theorem fX0_101 : FLk RX0 101 3 0 2 := ⟨RX3, TX3, 19, rfl, by decide, viX3, tb2 (List.mem_of_getElem? (i := 221) rfl), rfl⟩
theorem fX0_105 : FLk RX0 105 3 5 2 := ⟨RX3, TX3, 19, rfl, by decide, viX3, tb3 (List.mem_of_getElem? (i := 1) rfl), rfl⟩
theorem lX0_137 : Cond.methodLink RX0 137 yX0_isNamedKeep ∈ lw_tbl := tb6 (List.mem_of_getElem? (i := 103) rfl)
theorem fX0_40 : FLk RX0 40 0 9 0 := ⟨RX0, TX0, 18, rfl, by decide, viX0, tb2 (List.mem_of_getElem? (i := 4) rfl), rfl⟩
theorem fX0_114 : FLk RX0 114 3 9 2 := ⟨RX3, TX3, 19, rfl, by decide, viX3, tb3 (List.mem_of_getElem? (i := 18) rfl), rfl⟩
theorem fX0_34 : FLk RX0 34 0 7 2 := ⟨RX0, TX0, 18, rfl, by decide, viX0, tb2 (List.mem_of_getElem? (i := 2) rfl), rfl⟩
theorem lX0_94 : Cond.methodLink RX0 94 yX0_endLine ∈ lw_tbl := tb6 (List.mem_of_getElem? (i := 82) rfl)
theorem fX0_37 : FLk RX0 37 0 8 2 := ⟨RX0, TX0, 18, rfl, by decide, viX0, tb2 (List.mem_of_getElem? (i := 3) rfl), rfl⟩
theorem fX0_59 : FLk RX0 59 0 15 0 := ⟨RX0, TX0, 18, rfl, by decide, viX0, tb2 (List.mem_of_getElem? (i := 10) rfl), rfl⟩
theorem lX0_117 : Cond.methodLink RX0 117 yX0_isKept ∈ lw_tbl := tb6 (List.mem_of_getElem? (i := 99) rfl)
theorem fX0_31 : FLk RX0 31 0 6 2 := ⟨RX0, TX0, 18, rfl, by decide, viX0, tb2 (List.mem_of_getElem? (i := 1) rfl), rfl⟩
theorem lX0_120 : Cond.methodLink RX0 120 Lib.Math.max.name ∈ lw_tbl := tb6 (List.mem_of_getElem? (i := 108) rfl)
theorem lX0_147 : Cond.methodLink RX0 147 yX1_isSpace ∈ lw_tbl := tb6 (List.mem_of_getElem? (i := 113) rfl)
theorem fX0_81 : FLk RX0 81 3 3 2 := ⟨RX3, TX3, 19, rfl, by decide, viX3, tb2 (List.mem_of_getElem? (i := 235) rfl), rfl⟩
theorem fX0_22 : FLk RX0 22 0 3 2 := ⟨RX0, TX0, 18, rfl, by decide, viX0, tb1 (List.mem_of_getElem? (i := 235) rfl), rfl⟩
theorem fX0_25 : FLk RX0 25 0 4 2 := ⟨RX0, TX0, 18, rfl, by decide, viX0, tb1 (List.mem_of_getElem? (i := 237) rfl), rfl⟩
theorem lX0_68 : Cond.methodLink RX0 68 yJ7_fill_53178 ∈ lw_tbl := tb6 (List.mem_of_getElem? (i := 77) rfl)
theorem fX0_74 : FLk RX0 74 3 16 0 := ⟨RX3, TX3, 19, rfl, by decide, viX3, tb3 (List.mem_of_getElem? (i := 41) rfl), rfl⟩
theorem lX0_77 : Cond.methodLink RX0 77 yX0_closeBlocks ∈ lw_tbl := tb6 (List.mem_of_getElem? (i := 78) rfl)
theorem lX0_84 : Cond.methodLink RX0 84 yX0_takeText ∈ lw_tbl := tb6 (List.mem_of_getElem? (i := 109) rfl)
theorem lX0_87 : Cond.methodLink RX0 87 yX0_isBlock ∈ lw_tbl := tb6 (List.mem_of_getElem? (i := 114) rfl)
theorem lX0_91 : Cond.methodLink RX0 91 yX0_openBlock ∈ lw_tbl := tb6 (List.mem_of_getElem? (i := 117) rfl)
theorem lX0_98 : Cond.methodLink RX0 98 yX0_layPages ∈ lw_tbl := tb6 (List.mem_of_getElem? (i := 121) rfl)
theorem lX11_167 : Cond.methodLink RX11 167 yX0_compose ∈ lw_tbl := tb6 (List.mem_of_getElem? (i := 73) rfl)
theorem fX11_171 : FLk RX11 171 0 16 0 := ⟨RX0, TX0, 18, rfl, by decide, viX0, tb2 (List.mem_of_getElem? (i := 12) rfl), rfl⟩
theorem fX12_219 : FLk RX12 219 12 89 2 := ⟨RX12, TX12, 102, rfl, by decide, viX12, tb7 (List.mem_of_getElem? (i := 0) rfl), rfl⟩
theorem fX12_501 : FLk RX12 501 12 86 0 := ⟨RX12, TX12, 102, rfl, by decide, viX12, tb6 (List.mem_of_getElem? (i := 237) rfl), rfl⟩
theorem fX12_228 : FLk RX12 228 12 92 2 := ⟨RX12, TX12, 102, rfl, by decide, viX12, tb7 (List.mem_of_getElem? (i := 3) rfl), rfl⟩
theorem fX12_240 : FLk RX12 240 12 97 2 := ⟨RX12, TX12, 102, rfl, by decide, viX12, tb7 (List.mem_of_getElem? (i := 8) rfl), rfl⟩
theorem fX12_216 : FLk RX12 216 12 88 2 := ⟨RX12, TX12, 102, rfl, by decide, viX12, tb6 (List.mem_of_getElem? (i := 239) rfl), rfl⟩
theorem fX12_237 : FLk RX12 237 12 96 2 := ⟨RX12, TX12, 102, rfl, by decide, viX12, tb7 (List.mem_of_getElem? (i := 7) rfl), rfl⟩
theorem pX12_618 : PLk RX12 618 12 99 0 .boolean false := ⟨RX12, TX12, 102, tyX12, rfl, by decide, viX12, tb7 (List.mem_of_getElem? (i := 10) rfl), rfl, tyX12_ok, nmX12, rfl, (fun h => by first | rfl | (cases h)), by decide +kernel⟩
theorem fX12_618 : FLk RX12 618 12 99 0 := ⟨RX12, TX12, 102, rfl, by decide, viX12, tb7 (List.mem_of_getElem? (i := 10) rfl), rfl⟩
theorem fX12_621 : FLk RX12 621 12 98 0 := ⟨RX12, TX12, 102, rfl, by decide, viX12, tb7 (List.mem_of_getElem? (i := 9) rfl), rfl⟩
theorem fX12_624 : FLk RX12 624 12 100 0 := ⟨RX12, TX12, 102, rfl, by decide, viX12, tb7 (List.mem_of_getElem? (i := 11) rfl), rfl⟩
theorem lX12_627 : Cond.methodLink RX12 627 yX12_toLine ∈ lw_tbl := tb9 (List.mem_of_getElem? (i := 92) rfl)
theorem pX12_621 : PLk RX12 621 12 98 0 .int false := ⟨RX12, TX12, 102, tyX12, rfl, by decide, viX12, tb7 (List.mem_of_getElem? (i := 9) rfl), rfl, tyX12_ok, nmX12, rfl, (fun h => by first | rfl | (cases h)), by decide +kernel⟩
theorem lX12_630 : Cond.methodLink RX12 630 yX12_endLine ∈ lw_tbl := tb9 (List.mem_of_getElem? (i := 96) rfl)
theorem lX12_633 : Cond.methodLink RX12 633 yX12_isBlock ∈ lw_tbl := tb9 (List.mem_of_getElem? (i := 84) rfl)
theorem lX12_636 : Cond.methodLink RX12 636 yX12_endWord ∈ lw_tbl := tb9 (List.mem_of_getElem? (i := 88) rfl)
theorem fX12_639 : FLk RX12 639 12 95 0 := ⟨RX12, TX12, 102, rfl, by decide, viX12, tb7 (List.mem_of_getElem? (i := 6) rfl), rfl⟩
theorem fX12_234 : FLk RX12 234 12 94 2 := ⟨RX12, TX12, 102, rfl, by decide, viX12, tb7 (List.mem_of_getElem? (i := 5) rfl), rfl⟩
theorem fX12_243 : FLk RX12 243 12 101 2 := ⟨RX12, TX12, 102, rfl, by decide, viX12, tb7 (List.mem_of_getElem? (i := 12) rfl), rfl⟩
theorem lX12_658 : Cond.methodLink RX12 658 yX12_isKept ∈ lw_tbl := tb9 (List.mem_of_getElem? (i := 104) rfl)
theorem fX12_231 : FLk RX12 231 12 93 2 := ⟨RX12, TX12, 102, rfl, by decide, viX12, tb7 (List.mem_of_getElem? (i := 4) rfl), rfl⟩
theorem pX12_639 : PLk RX12 639 12 95 0 .int false := ⟨RX12, TX12, 102, tyX12, rfl, by decide, viX12, tb7 (List.mem_of_getElem? (i := 6) rfl), rfl, tyX12_ok, nmX12, rfl, (fun h => by first | rfl | (cases h)), by decide +kernel⟩
theorem fX12_222 : FLk RX12 222 12 90 2 := ⟨RX12, TX12, 102, rfl, by decide, viX12, tb7 (List.mem_of_getElem? (i := 1) rfl), rfl⟩
theorem fX12_225 : FLk RX12 225 12 91 2 := ⟨RX12, TX12, 102, rfl, by decide, viX12, tb7 (List.mem_of_getElem? (i := 2) rfl), rfl⟩
theorem pX12_661 : PLk RX12 661 12 87 0 .int false := ⟨RX12, TX12, 102, tyX12, rfl, by decide, viX12, tb6 (List.mem_of_getElem? (i := 238) rfl), rfl, tyX12_ok, nmX12, rfl, (fun h => by first | rfl | (cases h)), by decide +kernel⟩
theorem cX12_642 : Cond.constantLong RX12 642 (Int64.ofInt (60)) ∈ lw_tbl := tb9 (List.mem_of_getElem? (i := 78) rfl)
theorem cX12_644 : Cond.constantLong RX12 644 (Int64.ofInt (50)) ∈ lw_tbl := tb9 (List.mem_of_getElem? (i := 79) rfl)
theorem pX12_624 : PLk RX12 624 12 100 0 .int false := ⟨RX12, TX12, 102, tyX12, rfl, by decide, viX12, tb7 (List.mem_of_getElem? (i := 11) rfl), rfl, tyX12_ok, nmX12, rfl, (fun h => by first | rfl | (cases h)), by decide +kernel⟩
theorem lX12_646 : Cond.methodLink RX12 646 yX12_leave ∈ lw_tbl := tb9 (List.mem_of_getElem? (i := 80) rfl)
theorem lX12_649 : Cond.methodLink RX12 649 yX12_beginElement ∈ lw_tbl := tb9 (List.mem_of_getElem? (i := 100) rfl)
theorem lX12_652 : Cond.methodLink RX12 652 yX12_setText ∈ lw_tbl := tb9 (List.mem_of_getElem? (i := 108) rfl)
theorem lX12_655 : Cond.methodLink RX12 655 yX12_toPages ∈ lw_tbl := tb9 (List.mem_of_getElem? (i := 112) rfl)
theorem fX11_174 : FLk RX11 174 0 3 2 := ⟨RX0, TX0, 18, rfl, by decide, viX0, tb1 (List.mem_of_getElem? (i := 236) rfl), rfl⟩
theorem fX11_177 : FLk RX11 177 0 2 2 := ⟨RX0, TX0, 18, rfl, by decide, viX0, tb1 (List.mem_of_getElem? (i := 234) rfl), rfl⟩
theorem fX11_180 : FLk RX11 180 0 4 2 := ⟨RX0, TX0, 18, rfl, by decide, viX0, tb1 (List.mem_of_getElem? (i := 238) rfl), rfl⟩
theorem fX11_183 : FLk RX11 183 0 5 2 := ⟨RX0, TX0, 18, rfl, by decide, viX0, tb2 (List.mem_of_getElem? (i := 0) rfl), rfl⟩
theorem lX11_186 : Cond.methodLink RX11 186 yX3_textAt ∈ lw_tbl := tb6 (List.mem_of_getElem? (i := 129) rfl)
theorem lX11_189 : Cond.methodLink RX11 189 yX0_byteOf ∈ lw_tbl := tb6 (List.mem_of_getElem? (i := 137) rfl)
theorem fX11_190 : FLk RX11 190 3 1 2 := ⟨RX3, TX3, 19, rfl, by decide, viX3, tb2 (List.mem_of_getElem? (i := 227) rfl), rfl⟩
theorem fX11_194 : FLk RX11 194 9 10 0 := ⟨RX9, TX9, 11, rfl, by decide, viX9, tb2 (List.mem_of_getElem? (i := 126) rfl), rfl⟩
theorem fX11_197 : FLk RX11 197 3 2 2 := ⟨RX3, TX3, 19, rfl, by decide, viX3, tb2 (List.mem_of_getElem? (i := 232) rfl), rfl⟩
theorem fX11_201 : FLk RX11 201 7 11 0 := ⟨RX7, TX7, 13, rfl, by decide, viX7, tb2 (List.mem_of_getElem? (i := 189) rfl), rfl⟩
theorem fX11_204 : FLk RX11 204 0 17 0 := ⟨RX0, TX0, 18, rfl, by decide, viX0, tb2 (List.mem_of_getElem? (i := 14) rfl), rfl⟩
theorem fX11_207 : FLk RX11 207 3 18 0 := ⟨RX3, TX3, 19, rfl, by decide, viX3, tb3 (List.mem_of_getElem? (i := 50) rfl), rfl⟩
theorem fX12_661 : FLk RX12 661 12 87 0 := ⟨RX12, TX12, 102, rfl, by decide, viX12, tb6 (List.mem_of_getElem? (i := 238) rfl), rfl⟩
theorem nL_7 : NLk RL 7 11 12 := ⟨RX11, TX11, tyX11, rfl, viX11, tyX11_ok, tb1 (List.mem_of_getElem? (i := 21) rfl), tb1 (List.mem_of_getElem? (i := 22) rfl), tb1 (List.mem_of_getElem? (i := 1) rfl), rfl, by decide +kernel⟩
theorem lL_9 : Cond.methodLink RL 9 yX11_init ∈ lw_tbl := tb1 (List.mem_of_getElem? (i := 23) rfl)
theorem nL_10 : NLk RL 10 12 102 := ⟨RX12, TX12, tyX12, rfl, viX12, tyX12_ok, tb6 (List.mem_of_getElem? (i := 145) rfl), tb6 (List.mem_of_getElem? (i := 146) rfl), tb1 (List.mem_of_getElem? (i := 14) rfl), rfl, by decide +kernel⟩
theorem lL_12 : Cond.methodLink RL 12 yX12_init ∈ lw_tbl := tb6 (List.mem_of_getElem? (i := 147) rfl)
theorem lL_13 : Cond.methodLink RL 13 yX11_feed ∈ lw_tbl := tb3 (List.mem_of_getElem? (i := 127) rfl)
theorem lL_17 : Cond.methodLink RL 17 yX12_feed ∈ lw_tbl := tb9 (List.mem_of_getElem? (i := 116) rfl)
theorem lL_18 : Cond.methodLink RL 18 yX11_read ∈ lw_tbl := tb3 (List.mem_of_getElem? (i := 135) rfl)
theorem lL_22 : Cond.methodLink RL 22 yX12_read ∈ lw_tbl := tb7 (List.mem_of_getElem? (i := 219) rfl)
theorem lL_23 : Cond.methodLink RL 23 yX11_place ∈ lw_tbl := tb5 (List.mem_of_getElem? (i := 157) rfl)
theorem lL_27 : Cond.methodLink RL 27 yX12_place ∈ lw_tbl := tb9 (List.mem_of_getElem? (i := 120) rfl)
theorem lL_28 : Cond.methodLink RL 28 yX11_node ∈ lw_tbl := tb5 (List.mem_of_getElem? (i := 161) rfl)
theorem lL_32 : Cond.methodLink RL 32 yX12_node ∈ lw_tbl := tb9 (List.mem_of_getElem? (i := 124) rfl)
theorem lL_33 : Cond.methodLink RL 33 yX11_name ∈ lw_tbl := tb5 (List.mem_of_getElem? (i := 174) rfl)
theorem lL_36 : Cond.methodLink RL 36 yX12_name ∈ lw_tbl := tb9 (List.mem_of_getElem? (i := 132) rfl)
theorem lL_37 : Cond.methodLink RL 37 yX11_string ∈ lw_tbl := tb5 (List.mem_of_getElem? (i := 183) rfl)
theorem lL_40 : Cond.methodLink RL 40 yX12_string ∈ lw_tbl := tb9 (List.mem_of_getElem? (i := 136) rfl)
theorem lL_41 : Cond.methodLink RL 41 yX11_findings ∈ lw_tbl := tb5 (List.mem_of_getElem? (i := 191) rfl)
theorem lL_44 : Cond.methodLink RL 44 yX12_findings ∈ lw_tbl := tb9 (List.mem_of_getElem? (i := 140) rfl)
theorem lL_45 : Cond.methodLink RL 45 yX11_finding ∈ lw_tbl := tb5 (List.mem_of_getElem? (i := 195) rfl)
theorem lL_48 : Cond.methodLink RL 48 yX12_finding ∈ lw_tbl := tb9 (List.mem_of_getElem? (i := 144) rfl)
theorem lL_49 : Cond.methodLink RL 49 yX11_select ∈ lw_tbl := tb5 (List.mem_of_getElem? (i := 207) rfl)
theorem lL_52 : Cond.methodLink RL 52 yX12_select ∈ lw_tbl := tb9 (List.mem_of_getElem? (i := 9) rfl)
theorem lL_53 : Cond.methodLink RL 53 yX11_told ∈ lw_tbl := tb6 (List.mem_of_getElem? (i := 65) rfl)
theorem lL_56 : Cond.methodLink RL 56 yX12_told ∈ lw_tbl := tb9 (List.mem_of_getElem? (i := 70) rfl)
theorem lL_57 : Cond.methodLink RL 57 yX11_set ∈ lw_tbl := tb6 (List.mem_of_getElem? (i := 69) rfl)
theorem lL_60 : Cond.methodLink RL 60 yX12_set ∈ lw_tbl := tb9 (List.mem_of_getElem? (i := 74) rfl)
theorem lL_61 : Cond.methodLink RL 61 yX11_line ∈ lw_tbl := tb6 (List.mem_of_getElem? (i := 125) rfl)
theorem lL_64 : Cond.methodLink RL 64 yX12_line ∈ lw_tbl := tb9 (List.mem_of_getElem? (i := 149) rfl)
theorem lL_65 : Cond.methodLink RL 65 yX11_at ∈ lw_tbl := tb6 (List.mem_of_getElem? (i := 133) rfl)
theorem lL_68 : Cond.methodLink RL 68 yX12_at ∈ lw_tbl := tb9 (List.mem_of_getElem? (i := 153) rfl)
theorem lL_69 : Cond.methodLink RL 69 yX11_count ∈ lw_tbl := tb6 (List.mem_of_getElem? (i := 141) rfl)
theorem lL_72 : Cond.methodLink RL 72 yX12_count ∈ lw_tbl := tb9 (List.mem_of_getElem? (i := 157) rfl)
theorem oi1 : Cond.instanceMethod Lib.objectInit ∈ lw_tbl := tb1 (List.mem_of_getElem? (i := 27) rfl)
theorem oi2 : Cond.code Lib.objectInit ⟨#[0xb1]⟩ 1 none ∈ lw_tbl := tb1 (List.mem_of_getElem? (i := 28) rfl)
theorem ac1 : Cond.native arraycopyName ∈ lw_tbl := tb3 (List.mem_of_getElem? (i := 161) rfl)
theorem ac2 : Cond.static arraycopyName ∈ lw_tbl := tb3 (List.mem_of_getElem? (i := 160) rfl)
theorem ac3 : Cond.initialized "java/lang/System" ∈ lw_tbl := tb1 (List.mem_of_getElem? (i := 16) rfl)
theorem mm_max1 : Cond.static Lib.Math.max.name ∈ lw_tbl := tb3 (List.mem_of_getElem? (i := 147) rfl)
theorem mm_max2 : Cond.code Lib.Math.max.name Lib.Math.max.code 2 (some .int) ∈ lw_tbl := tb3 (List.mem_of_getElem? (i := 148) rfl)
theorem mm_min1 : Cond.static Lib.Math.min.name ∈ lw_tbl := tb3 (List.mem_of_getElem? (i := 144) rfl)
theorem mm_min2 : Cond.code Lib.Math.min.name Lib.Math.min.code 2 (some .int) ∈ lw_tbl := tb3 (List.mem_of_getElem? (i := 145) rfl)
theorem mm_3 : Cond.initialized "java/lang/Math" ∈ lw_tbl := tb1 (List.mem_of_getElem? (i := 15) rfl)
theorem ar_byte : Cond.arrayClass .byte ∈ lw_tbl := tb1 (List.mem_of_getElem? (i := 72) rfl)
theorem ar_int : Cond.arrayClass .int ∈ lw_tbl := tb1 (List.mem_of_getElem? (i := 110) rfl)
theorem ar_long : Cond.arrayClass .long ∈ lw_tbl := tb1 (List.mem_of_getElem? (i := 111) rfl)
theorem ar_boolean : Cond.arrayClass .boolean ∈ lw_tbl := tb7 (List.mem_of_getElem? (i := 218) rfl)
