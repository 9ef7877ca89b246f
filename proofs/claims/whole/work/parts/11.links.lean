/-! the words of fields and calls (written by a program) -/
theorem fl_X0_11 : jFL RX0 11 0 1 2 := ⟨RX0, TX0, 7, rfl, by decide, by decide, jinT3 (List.mem_of_getElem? (i := 78) rfl) rfl, rfl⟩
theorem ff_X0_1 : jFfin 0 1 true := ⟨RX0, TX0, 7, rfl, rfl, fun _ => rfl⟩
theorem fz_X0_1 : ∀ x : Int, jfit (jty 0 (Int.toNat 1)) x := fun _ => trivial
theorem fl_X0_15 : jFL RX0 15 0 2 2 := ⟨RX0, TX0, 7, rfl, by decide, by decide, jinT3 (List.mem_of_getElem? (i := 80) rfl) rfl, rfl⟩
theorem ff_X0_2 : jFfin 0 2 true := ⟨RX0, TX0, 7, rfl, rfl, fun _ => rfl⟩
theorem fz_X0_2 : ∀ x : Int, jfit (jty 0 (Int.toNat 2)) x := fun _ => trivial
theorem fl_X0_18 : jFL RX0 18 0 3 2 := ⟨RX0, TX0, 7, rfl, by decide, by decide, jinT3 (List.mem_of_getElem? (i := 81) rfl) rfl, rfl⟩
theorem ff_X0_3 : jFfin 0 3 true := ⟨RX0, TX0, 7, rfl, rfl, fun _ => rfl⟩
theorem fz_X0_3 : ∀ x : Int, jfit (jty 0 (Int.toNat 3)) x := fun _ => trivial
theorem fl_X0_22 : jFL RX0 22 0 4 2 := ⟨RX0, TX0, 7, rfl, by decide, by decide, jinT3 (List.mem_of_getElem? (i := 82) rfl) rfl, rfl⟩
theorem ff_X0_4 : jFfin 0 4 true := ⟨RX0, TX0, 7, rfl, rfl, fun _ => rfl⟩
theorem fz_X0_4 : ∀ x : Int, jfit (jty 0 (Int.toNat 4)) x := fun _ => trivial
theorem fl_X0_25 : jFL RX0 25 0 5 2 := ⟨RX0, TX0, 7, rfl, by decide, by decide, jinT3 (List.mem_of_getElem? (i := 83) rfl) rfl, rfl⟩
theorem ff_X0_5 : jFfin 0 5 true := ⟨RX0, TX0, 7, rfl, rfl, fun _ => rfl⟩
theorem fz_X0_5 : ∀ x : Int, jfit (jty 0 (Int.toNat 5)) x := fun _ => trivial
theorem cs_X0_28 : jCS RX0 28 iJ7_fill_53178 2 := ⟨jinT3 (List.mem_of_getElem? (i := 73) rfl) rfl, wtJ7_fill_53178, wcJ7_fill_53178, wnJ7, wpJ7_fill_53178, by decide⟩
theorem fl_X0_34 : jFL RX0 34 0 0 0 := ⟨RX0, TX0, 7, rfl, by decide, by decide, jinT3 (List.mem_of_getElem? (i := 76) rfl) rfl, rfl⟩
theorem ff_X0_0 : jFfin 0 0 false := ⟨RX0, TX0, 7, rfl, rfl, fun _ => rfl⟩
theorem fz_X0_0 : ∀ x : Int, jfit (jty 0 (Int.toNat 0)) x := fun _ => trivial
theorem fl_X0_38 : jFL RX0 38 0 6 0 := ⟨RX0, TX0, 7, rfl, by decide, by decide, jinT3 (List.mem_of_getElem? (i := 84) rfl) rfl, rfl⟩
theorem ff_X0_6 : jFfin 0 6 false := ⟨RX0, TX0, 7, rfl, rfl, fun _ => rfl⟩
theorem fz_X0_6 : ∀ x : Int, jfit (jty 0 (Int.toNat 6)) x := fun _ => trivial
theorem cs_X0_41 : jCS RX0 41 iJ6_bitCount_0f7a4 1 := ⟨jinT6 (List.mem_of_getElem? (i := 107) rfl) rfl, wtJ6_bitCount_0f7a4, wcJ6_bitCount_0f7a4, wnJ6, wpJ6_bitCount_0f7a4, by decide⟩
theorem cv_X0_47 : jCV RX0 47 iX0_leastFrom 2 := ⟨jinT6 (List.mem_of_getElem? (i := 108) rfl) rfl, wiX0_leastFrom, wlX0_leastFrom, wcX0_leastFrom, wnX0, wpX0_leastFrom, by decide⟩
theorem cv_X0_51 : jCV RX0 51 iX0_listDrivers 1 := ⟨jinT6 (List.mem_of_getElem? (i := 117) rfl) rfl, wiX0_listDrivers, wlX0_listDrivers, wcX0_listDrivers, wnX0, wpX0_listDrivers, by decide⟩
theorem cv_X0_55 : jCV RX0 55 iX0_canDrive 3 := ⟨jinT6 (List.mem_of_getElem? (i := 112) rfl) rfl, wiX0_canDrive, wlX0_canDrive, wcX0_canDrive, wnX0, wpX0_canDrive, by decide⟩
theorem cv_X0_64 : jCV RX0 64 iX0_firstDriver 2 := ⟨jinT6 (List.mem_of_getElem? (i := 121) rfl) rfl, wiX0_firstDriver, wlX0_firstDriver, wcX0_firstDriver, wnX0, wpX0_firstDriver, by decide⟩
theorem fl_X1_11 : jFL RX1 11 1 2 2 := ⟨RX1, TX1, 9, rfl, by decide, by decide, jinT1 (List.mem_of_getElem? (i := 180) rfl) rfl, rfl⟩
theorem ff_X1_2 : jFfin 1 2 true := ⟨RX1, TX1, 9, rfl, rfl, fun _ => rfl⟩
theorem fz_X1_2 : ∀ x : Int, jfit (jty 1 (Int.toNat 2)) x := fun _ => trivial
theorem fl_X1_15 : jFL RX1 15 1 3 2 := ⟨RX1, TX1, 9, rfl, by decide, by decide, jinT1 (List.mem_of_getElem? (i := 183) rfl) rfl, rfl⟩
theorem ff_X1_3 : jFfin 1 3 true := ⟨RX1, TX1, 9, rfl, rfl, fun _ => rfl⟩
theorem fz_X1_3 : ∀ x : Int, jfit (jty 1 (Int.toNat 3)) x := fun _ => trivial
theorem fl_X1_18 : jFL RX1 18 1 4 2 := ⟨RX1, TX1, 9, rfl, by decide, by decide, jinT1 (List.mem_of_getElem? (i := 187) rfl) rfl, rfl⟩
theorem ff_X1_4 : jFfin 1 4 true := ⟨RX1, TX1, 9, rfl, rfl, fun _ => rfl⟩
theorem fz_X1_4 : ∀ x : Int, jfit (jty 1 (Int.toNat 4)) x := fun _ => trivial
theorem fl_X1_21 : jFL RX1 21 1 5 2 := ⟨RX1, TX1, 9, rfl, by decide, by decide, jinT1 (List.mem_of_getElem? (i := 190) rfl) rfl, rfl⟩
theorem ff_X1_5 : jFfin 1 5 true := ⟨RX1, TX1, 9, rfl, rfl, fun _ => rfl⟩
theorem fz_X1_5 : ∀ x : Int, jfit (jty 1 (Int.toNat 5)) x := fun _ => trivial
theorem fl_X1_24 : jFL RX1 24 1 6 2 := ⟨RX1, TX1, 9, rfl, by decide, by decide, jinT1 (List.mem_of_getElem? (i := 194) rfl) rfl, rfl⟩
theorem ff_X1_6 : jFfin 1 6 true := ⟨RX1, TX1, 9, rfl, rfl, fun _ => rfl⟩
theorem fz_X1_6 : ∀ x : Int, jfit (jty 1 (Int.toNat 6)) x := fun _ => trivial
theorem fl_X1_27 : jFL RX1 27 1 7 2 := ⟨RX1, TX1, 9, rfl, by decide, by decide, jinT1 (List.mem_of_getElem? (i := 197) rfl) rfl, rfl⟩
theorem ff_X1_7 : jFfin 1 7 true := ⟨RX1, TX1, 9, rfl, rfl, fun _ => rfl⟩
theorem fz_X1_7 : ∀ x : Int, jfit (jty 1 (Int.toNat 7)) x := fun _ => trivial
theorem fl_X1_30 : jFL RX1 30 1 8 2 := ⟨RX1, TX1, 9, rfl, by decide, by decide, jinT1 (List.mem_of_getElem? (i := 198) rfl) rfl, rfl⟩
theorem ff_X1_8 : jFfin 1 8 true := ⟨RX1, TX1, 9, rfl, rfl, fun _ => rfl⟩
theorem fz_X1_8 : ∀ x : Int, jfit (jty 1 (Int.toNat 8)) x := fun _ => trivial
theorem fl_X1_33 : jFL RX1 33 1 0 0 := ⟨RX1, TX1, 9, rfl, by decide, by decide, jinT1 (List.mem_of_getElem? (i := 176) rfl) rfl, rfl⟩
theorem ff_X1_0 : jFfin 1 0 false := ⟨RX1, TX1, 9, rfl, rfl, fun _ => rfl⟩
theorem fz_X1_0 : ∀ x : Int, jfit (jty 1 (Int.toNat 0)) x := fun _ => trivial
theorem fl_X1_37 : jFL RX1 37 1 1 0 := ⟨RX1, TX1, 9, rfl, by decide, by decide, jinT1 (List.mem_of_getElem? (i := 178) rfl) rfl, rfl⟩
theorem cv_X1_40 : jCV RX1 40 iX1_add 5 := ⟨jinT4 (List.mem_of_getElem? (i := 139) rfl) rfl, wiX1_add, wlX1_add, wcX1_add, wnX1, wpX1_add, by decide⟩
theorem ff_X1_1 : jFfin 1 1 false := ⟨RX1, TX1, 9, rfl, rfl, fun _ => rfl⟩
theorem fz_X1_1 : ∀ x : Int, jfit (jty 1 (Int.toNat 1)) x := fun _ => trivial
theorem cv_X1_50 : jCV RX1 50 iX1_latestMove 4 := ⟨jinT4 (List.mem_of_getElem? (i := 199) rfl) rfl, wiX1_latestMove, wlX1_latestMove, wcX1_latestMove, wnX1, wpX1_latestMove, by decide⟩
theorem cv_X1_54 : jCV RX1 54 iX1_isKnown 3 := ⟨jinT4 (List.mem_of_getElem? (i := 203) rfl) rfl, wiX1_isKnown, wlX1_isKnown, wcX1_isKnown, wnX1, wpX1_isKnown, by decide⟩
theorem fl_X2_11 : jFL RX2 11 2 2 2 := ⟨RX2, TX2, 18, rfl, by decide, by decide, jinT2 (List.mem_of_getElem? (i := 217) rfl) rfl, rfl⟩
theorem ff_X2_2 : jFfin 2 2 true := ⟨RX2, TX2, 18, rfl, rfl, fun _ => rfl⟩
theorem fz_X2_2 : ∀ x : Int, jfit (jty 2 (Int.toNat 2)) x := fun _ => trivial
theorem fl_X2_15 : jFL RX2 15 2 6 2 := ⟨RX2, TX2, 18, rfl, by decide, by decide, jinT2 (List.mem_of_getElem? (i := 222) rfl) rfl, rfl⟩
theorem ff_X2_6 : jFfin 2 6 true := ⟨RX2, TX2, 18, rfl, rfl, fun _ => rfl⟩
theorem fz_X2_6 : ∀ x : Int, jfit (jty 2 (Int.toNat 6)) x := fun _ => trivial
theorem fl_X2_18 : jFL RX2 18 2 7 2 := ⟨RX2, TX2, 18, rfl, by decide, by decide, jinT2 (List.mem_of_getElem? (i := 223) rfl) rfl, rfl⟩
theorem ff_X2_7 : jFfin 2 7 true := ⟨RX2, TX2, 18, rfl, rfl, fun _ => rfl⟩
theorem fz_X2_7 : ∀ x : Int, jfit (jty 2 (Int.toNat 7)) x := fun _ => trivial
theorem fl_X2_21 : jFL RX2 21 2 8 2 := ⟨RX2, TX2, 18, rfl, by decide, by decide, jinT2 (List.mem_of_getElem? (i := 224) rfl) rfl, rfl⟩
theorem ff_X2_8 : jFfin 2 8 true := ⟨RX2, TX2, 18, rfl, rfl, fun _ => rfl⟩
theorem fz_X2_8 : ∀ x : Int, jfit (jty 2 (Int.toNat 8)) x := fun _ => trivial
theorem fl_X2_24 : jFL RX2 24 2 9 2 := ⟨RX2, TX2, 18, rfl, by decide, by decide, jinT2 (List.mem_of_getElem? (i := 225) rfl) rfl, rfl⟩
theorem ff_X2_9 : jFfin 2 9 true := ⟨RX2, TX2, 18, rfl, rfl, fun _ => rfl⟩
theorem fz_X2_9 : ∀ x : Int, jfit (jty 2 (Int.toNat 9)) x := fun _ => trivial
theorem fl_X2_27 : jFL RX2 27 2 10 2 := ⟨RX2, TX2, 18, rfl, by decide, by decide, jinT2 (List.mem_of_getElem? (i := 226) rfl) rfl, rfl⟩
theorem ff_X2_10 : jFfin 2 10 true := ⟨RX2, TX2, 18, rfl, rfl, fun _ => rfl⟩
theorem fz_X2_10 : ∀ x : Int, jfit (jty 2 (Int.toNat 10)) x := fun _ => trivial
theorem fl_X2_30 : jFL RX2 30 2 11 2 := ⟨RX2, TX2, 18, rfl, by decide, by decide, jinT2 (List.mem_of_getElem? (i := 227) rfl) rfl, rfl⟩
theorem ff_X2_11 : jFfin 2 11 true := ⟨RX2, TX2, 18, rfl, rfl, fun _ => rfl⟩
theorem fz_X2_11 : ∀ x : Int, jfit (jty 2 (Int.toNat 11)) x := fun _ => trivial
theorem fl_X2_33 : jFL RX2 33 2 12 2 := ⟨RX2, TX2, 18, rfl, by decide, by decide, jinT2 (List.mem_of_getElem? (i := 228) rfl) rfl, rfl⟩
theorem ff_X2_12 : jFfin 2 12 true := ⟨RX2, TX2, 18, rfl, rfl, fun _ => rfl⟩
theorem fz_X2_12 : ∀ x : Int, jfit (jty 2 (Int.toNat 12)) x := fun _ => trivial
theorem fl_X2_36 : jFL RX2 36 2 13 2 := ⟨RX2, TX2, 18, rfl, by decide, by decide, jinT2 (List.mem_of_getElem? (i := 229) rfl) rfl, rfl⟩
theorem ff_X2_13 : jFfin 2 13 true := ⟨RX2, TX2, 18, rfl, rfl, fun _ => rfl⟩
theorem fz_X2_13 : ∀ x : Int, jfit (jty 2 (Int.toNat 13)) x := fun _ => trivial
theorem fl_X2_39 : jFL RX2 39 2 14 2 := ⟨RX2, TX2, 18, rfl, by decide, by decide, jinT2 (List.mem_of_getElem? (i := 230) rfl) rfl, rfl⟩
theorem ff_X2_14 : jFfin 2 14 true := ⟨RX2, TX2, 18, rfl, rfl, fun _ => rfl⟩
theorem fz_X2_14 : ∀ x : Int, jfit (jty 2 (Int.toNat 14)) x := fun _ => trivial
theorem fl_X2_42 : jFL RX2 42 2 15 2 := ⟨RX2, TX2, 18, rfl, by decide, by decide, jinT2 (List.mem_of_getElem? (i := 231) rfl) rfl, rfl⟩
theorem ff_X2_15 : jFfin 2 15 true := ⟨RX2, TX2, 18, rfl, rfl, fun _ => rfl⟩
theorem fz_X2_15 : ∀ x : Int, jfit (jty 2 (Int.toNat 15)) x := fun _ => trivial
theorem fl_X2_45 : jFL RX2 45 2 16 2 := ⟨RX2, TX2, 18, rfl, by decide, by decide, jinT2 (List.mem_of_getElem? (i := 232) rfl) rfl, rfl⟩
theorem ff_X2_16 : jFfin 2 16 true := ⟨RX2, TX2, 18, rfl, rfl, fun _ => rfl⟩
theorem fz_X2_16 : ∀ x : Int, jfit (jty 2 (Int.toNat 16)) x := fun _ => trivial
theorem fl_X2_48 : jFL RX2 48 2 17 2 := ⟨RX2, TX2, 18, rfl, by decide, by decide, jinT2 (List.mem_of_getElem? (i := 233) rfl) rfl, rfl⟩
theorem ff_X2_17 : jFfin 2 17 true := ⟨RX2, TX2, 18, rfl, rfl, fun _ => rfl⟩
theorem fz_X2_17 : ∀ x : Int, jfit (jty 2 (Int.toNat 17)) x := fun _ => trivial
theorem fl_X2_51 : jFL RX2 51 2 0 0 := ⟨RX2, TX2, 18, rfl, by decide, by decide, jinT2 (List.mem_of_getElem? (i := 213) rfl) rfl, rfl⟩
theorem ff_X2_0 : jFfin 2 0 false := ⟨RX2, TX2, 18, rfl, rfl, fun _ => rfl⟩
theorem fz_X2_0 : ∀ x : Int, jfit (jty 2 (Int.toNat 0)) x := fun _ => trivial
theorem fl_X2_55 : jFL RX2 55 2 3 0 := ⟨RX2, TX2, 18, rfl, by decide, by decide, jinT2 (List.mem_of_getElem? (i := 219) rfl) rfl, rfl⟩
theorem ff_X2_3 : jFfin 2 3 false := ⟨RX2, TX2, 18, rfl, rfl, fun _ => rfl⟩
theorem fz_X2_3 : ∀ x : Int, jfit (jty 2 (Int.toNat 3)) x := fun _ => trivial
theorem fl_X2_58 : jFL RX2 58 8 8 0 := ⟨RX8, TX8, 19, rfl, by decide, by decide, jinT2 (List.mem_of_getElem? (i := 4) rfl) rfl, rfl⟩
theorem fl_X2_63 : jFL RX2 63 2 4 0 := ⟨RX2, TX2, 18, rfl, by decide, by decide, jinT2 (List.mem_of_getElem? (i := 220) rfl) rfl, rfl⟩
theorem ff_X2_4 : jFfin 2 4 false := ⟨RX2, TX2, 18, rfl, rfl, fun _ => rfl⟩
theorem fz_X2_4 : ∀ x : Int, jfit (jty 2 (Int.toNat 4)) x := fun _ => trivial
theorem fl_X2_64 : jFL RX2 64 2 5 0 := ⟨RX2, TX2, 18, rfl, by decide, by decide, jinT2 (List.mem_of_getElem? (i := 221) rfl) rfl, rfl⟩
theorem ff_X2_5 : jFfin 2 5 false := ⟨RX2, TX2, 18, rfl, rfl, fun _ => rfl⟩
theorem fz_X2_5 : ∀ x : Int, (x = 0 ∨ x = 1) → jfit (jty 2 (Int.toNat 5)) x := fun _ h => h
theorem fl_X2_68 : jFL RX2 68 8 9 2 := ⟨RX8, TX8, 19, rfl, by decide, by decide, jinT2 (List.mem_of_getElem? (i := 10) rfl) rfl, rfl⟩
theorem fl_X2_75 : jFL RX2 75 8 10 2 := ⟨RX8, TX8, 19, rfl, by decide, by decide, jinT2 (List.mem_of_getElem? (i := 14) rfl) rfl, rfl⟩
theorem fl_X2_76 : jFL RX2 76 3 4 0 := ⟨RX3, TX3, 18, rfl, by decide, by decide, jinT2 (List.mem_of_getElem? (i := 150) rfl) rfl, rfl⟩
theorem fl_X2_81 : jFL RX2 81 3 5 2 := ⟨RX3, TX3, 18, rfl, by decide, by decide, jinT2 (List.mem_of_getElem? (i := 154) rfl) rfl, rfl⟩
theorem cv_X2_84 : jCV RX2 84 iX3_stopInRoute 2 := ⟨jinT5 (List.mem_of_getElem? (i := 212) rfl) rfl, wiX3_stopInRoute, wlX3_stopInRoute, wcX3_stopInRoute, wnX3, wpX3_stopInRoute, by decide⟩
theorem fl_X2_88 : jFL RX2 88 8 12 2 := ⟨RX8, TX8, 19, rfl, by decide, by decide, jinT2 (List.mem_of_getElem? (i := 21) rfl) rfl, rfl⟩
theorem fl_X2_91 : jFL RX2 91 3 2 2 := ⟨RX3, TX3, 18, rfl, by decide, by decide, jinT2 (List.mem_of_getElem? (i := 146) rfl) rfl, rfl⟩
theorem cs_X2_94 : jCS RX2 94 iJ7_fill_53178 2 := ⟨jinT5 (List.mem_of_getElem? (i := 217) rfl) rfl, wtJ7_fill_53178, wcJ7_fill_53178, wnJ7, wpJ7_fill_53178, by decide⟩
theorem cv_X2_100 : jCV RX2 100 iX9_sumOf 3 := ⟨jinT5 (List.mem_of_getElem? (i := 218) rfl) rfl, wiX9_sumOf, wlX9_sumOf, wcX9_sumOf, wnX9, wpX9_sumOf, by decide⟩
theorem cv_X2_107 : jCV RX2 107 iX2_noteFollower 3 := ⟨jinT5 (List.mem_of_getElem? (i := 220) rfl) rfl, wiX2_noteFollower, wlX2_noteFollower, wcX2_noteFollower, wnX2, wpX2_noteFollower, by decide⟩
theorem cv_X2_111 : jCV RX2 111 iX2_fewestBuses 0 := ⟨jinT5 (List.mem_of_getElem? (i := 228) rfl) rfl, wiX2_fewestBuses, wlX2_fewestBuses, wcX2_fewestBuses, wnX2, wpX2_fewestBuses, by decide⟩
theorem fl_X2_115 : jFL RX2 115 2 1 0 := ⟨RX2, TX2, 18, rfl, by decide, by decide, jinT2 (List.mem_of_getElem? (i := 215) rfl) rfl, rfl⟩
theorem ff_X2_1 : jFfin 2 1 false := ⟨RX2, TX2, 18, rfl, rfl, fun _ => rfl⟩
theorem fz_X2_1 : ∀ x : Int, jfit (jty 2 (Int.toNat 1)) x := fun _ => trivial
theorem cv_X2_118 : jCV RX2 118 iX2_putBells 1 := ⟨jinT6 (List.mem_of_getElem? (i := 13) rfl) rfl, wiX2_putBells, wlX2_putBells, wcX2_putBells, wnX2, wpX2_putBells, by decide⟩
theorem cv_X2_128 : jCV RX2 128 iX2_putsExistingAlone 0 := ⟨jinT6 (List.mem_of_getElem? (i := 20) rfl) rfl, wiX2_putsExistingAlone, wlX2_putsExistingAlone, wcX2_putsExistingAlone, wnX2, wpX2_putsExistingAlone, by decide⟩
theorem cv_X2_132 : jCV RX2 132 iX2_keepPuts 0 := ⟨jinT6 (List.mem_of_getElem? (i := 24) rfl) rfl, wiX2_keepPuts, wlX2_keepPuts, wcX2_keepPuts, wnX2, wpX2_keepPuts, by decide⟩
theorem cv_X2_135 : jCV RX2 135 iX2_followersOf 1 := ⟨jinT5 (List.mem_of_getElem? (i := 232) rfl) rfl, wiX2_followersOf, wlX2_followersOf, wcX2_followersOf, wnX2, wpX2_followersOf, by decide⟩
theorem cv_X2_138 : jCV RX2 138 iX2_findFollower 1 := ⟨jinT5 (List.mem_of_getElem? (i := 236) rfl) rfl, wiX2_findFollower, wlX2_findFollower, wcX2_findFollower, wnX2, wpX2_findFollower, by decide⟩
theorem cs_X2_142 : jCS RX2 142 iJ6_bitCount_0f7a4 1 := ⟨jinT6 (List.mem_of_getElem? (i := 0) rfl) rfl, wtJ6_bitCount_0f7a4, wcJ6_bitCount_0f7a4, wnJ6, wpJ6_bitCount_0f7a4, by decide⟩
theorem cv_X2_147 : jCV RX2 147 iX2_joinBack 1 := ⟨jinT6 (List.mem_of_getElem? (i := 1) rfl) rfl, wiX2_joinBack, wlX2_joinBack, wcX2_joinBack, wnX2, wpX2_joinBack, by decide⟩
theorem fl_X3_11 : jFL RX3 11 3 1 2 := ⟨RX3, TX3, 18, rfl, by decide, by decide, jinT2 (List.mem_of_getElem? (i := 143) rfl) rfl, rfl⟩
theorem ff_X3_1 : jFfin 3 1 true := ⟨RX3, TX3, 18, rfl, rfl, fun _ => rfl⟩
theorem fz_X3_1 : ∀ x : Int, jfit (jty 3 (Int.toNat 1)) x := fun _ => trivial
theorem fl_X3_17 : jFL RX3 17 3 2 2 := ⟨RX3, TX3, 18, rfl, by decide, by decide, jinT2 (List.mem_of_getElem? (i := 145) rfl) rfl, rfl⟩
theorem ff_X3_2 : jFfin 3 2 true := ⟨RX3, TX3, 18, rfl, rfl, fun _ => rfl⟩
theorem fz_X3_2 : ∀ x : Int, jfit (jty 3 (Int.toNat 2)) x := fun _ => trivial
theorem fl_X3_20 : jFL RX3 20 3 3 2 := ⟨RX3, TX3, 18, rfl, by decide, by decide, jinT2 (List.mem_of_getElem? (i := 148) rfl) rfl, rfl⟩
theorem ff_X3_3 : jFfin 3 3 true := ⟨RX3, TX3, 18, rfl, rfl, fun _ => rfl⟩
theorem fz_X3_3 : ∀ x : Int, jfit (jty 3 (Int.toNat 3)) x := fun _ => trivial
theorem fl_X3_24 : jFL RX3 24 3 5 2 := ⟨RX3, TX3, 18, rfl, by decide, by decide, jinT2 (List.mem_of_getElem? (i := 153) rfl) rfl, rfl⟩
theorem ff_X3_5 : jFfin 3 5 true := ⟨RX3, TX3, 18, rfl, rfl, fun _ => rfl⟩
theorem fz_X3_5 : ∀ x : Int, jfit (jty 3 (Int.toNat 5)) x := fun _ => trivial
theorem fl_X3_27 : jFL RX3 27 3 7 2 := ⟨RX3, TX3, 18, rfl, by decide, by decide, jinT2 (List.mem_of_getElem? (i := 158) rfl) rfl, rfl⟩
theorem ff_X3_7 : jFfin 3 7 true := ⟨RX3, TX3, 18, rfl, rfl, fun _ => rfl⟩
theorem fz_X3_7 : ∀ x : Int, jfit (jty 3 (Int.toNat 7)) x := fun _ => trivial
theorem fl_X3_30 : jFL RX3 30 3 10 2 := ⟨RX3, TX3, 18, rfl, by decide, by decide, jinT2 (List.mem_of_getElem? (i := 161) rfl) rfl, rfl⟩
theorem ff_X3_10 : jFfin 3 10 true := ⟨RX3, TX3, 18, rfl, rfl, fun _ => rfl⟩
theorem fz_X3_10 : ∀ x : Int, jfit (jty 3 (Int.toNat 10)) x := fun _ => trivial
theorem fl_X3_33 : jFL RX3 33 3 11 2 := ⟨RX3, TX3, 18, rfl, by decide, by decide, jinT2 (List.mem_of_getElem? (i := 162) rfl) rfl, rfl⟩
theorem ff_X3_11 : jFfin 3 11 true := ⟨RX3, TX3, 18, rfl, rfl, fun _ => rfl⟩
theorem fz_X3_11 : ∀ x : Int, jfit (jty 3 (Int.toNat 11)) x := fun _ => trivial
theorem fl_X3_36 : jFL RX3 36 3 12 2 := ⟨RX3, TX3, 18, rfl, by decide, by decide, jinT2 (List.mem_of_getElem? (i := 163) rfl) rfl, rfl⟩
theorem ff_X3_12 : jFfin 3 12 true := ⟨RX3, TX3, 18, rfl, rfl, fun _ => rfl⟩
theorem fz_X3_12 : ∀ x : Int, jfit (jty 3 (Int.toNat 12)) x := fun _ => trivial
theorem fl_X3_39 : jFL RX3 39 3 13 2 := ⟨RX3, TX3, 18, rfl, by decide, by decide, jinT2 (List.mem_of_getElem? (i := 164) rfl) rfl, rfl⟩
theorem ff_X3_13 : jFfin 3 13 true := ⟨RX3, TX3, 18, rfl, rfl, fun _ => rfl⟩
theorem fz_X3_13 : ∀ x : Int, jfit (jty 3 (Int.toNat 13)) x := fun _ => trivial
theorem fl_X3_42 : jFL RX3 42 3 14 2 := ⟨RX3, TX3, 18, rfl, by decide, by decide, jinT2 (List.mem_of_getElem? (i := 165) rfl) rfl, rfl⟩
theorem ff_X3_14 : jFfin 3 14 true := ⟨RX3, TX3, 18, rfl, rfl, fun _ => rfl⟩
theorem fz_X3_14 : ∀ x : Int, jfit (jty 3 (Int.toNat 14)) x := fun _ => trivial
theorem fl_X3_45 : jFL RX3 45 3 15 2 := ⟨RX3, TX3, 18, rfl, by decide, by decide, jinT2 (List.mem_of_getElem? (i := 166) rfl) rfl, rfl⟩
theorem ff_X3_15 : jFfin 3 15 true := ⟨RX3, TX3, 18, rfl, rfl, fun _ => rfl⟩
theorem fz_X3_15 : ∀ x : Int, jfit (jty 3 (Int.toNat 15)) x := fun _ => trivial
theorem fl_X3_48 : jFL RX3 48 3 16 2 := ⟨RX3, TX3, 18, rfl, by decide, by decide, jinT2 (List.mem_of_getElem? (i := 167) rfl) rfl, rfl⟩
theorem ff_X3_16 : jFfin 3 16 true := ⟨RX3, TX3, 18, rfl, rfl, fun _ => rfl⟩
theorem fz_X3_16 : ∀ x : Int, jfit (jty 3 (Int.toNat 16)) x := fun _ => trivial
theorem fl_X3_51 : jFL RX3 51 3 17 2 := ⟨RX3, TX3, 18, rfl, by decide, by decide, jinT2 (List.mem_of_getElem? (i := 168) rfl) rfl, rfl⟩
theorem ff_X3_17 : jFfin 3 17 true := ⟨RX3, TX3, 18, rfl, rfl, fun _ => rfl⟩
theorem fz_X3_17 : ∀ x : Int, jfit (jty 3 (Int.toNat 17)) x := fun _ => trivial
theorem fl_X3_54 : jFL RX3 54 9 5 0 := ⟨RX9, TX9, 15, rfl, by decide, by decide, jinT2 (List.mem_of_getElem? (i := 86) rfl) rfl, rfl⟩
theorem fl_X3_60 : jFL RX3 60 3 0 0 := ⟨RX3, TX3, 18, rfl, by decide, by decide, jinT2 (List.mem_of_getElem? (i := 141) rfl) rfl, rfl⟩
theorem ff_X3_0 : jFfin 3 0 false := ⟨RX3, TX3, 18, rfl, rfl, fun _ => rfl⟩
theorem fz_X3_0 : ∀ x : Int, jfit (jty 3 (Int.toNat 0)) x := fun _ => trivial
theorem cv_X3_61 : jCV RX3 61 iX3_gatherRiders 2 := ⟨jinT5 (List.mem_of_getElem? (i := 83) rfl) rfl, wiX3_gatherRiders, wlX3_gatherRiders, wcX3_gatherRiders, wnX3, wpX3_gatherRiders, by decide⟩
theorem cv_X3_65 : jCV RX3 65 iX3_gatherParted 2 := ⟨jinT5 (List.mem_of_getElem? (i := 88) rfl) rfl, wiX3_gatherParted, wlX3_gatherParted, wcX3_gatherParted, wnX3, wpX3_gatherParted, by decide⟩
theorem cv_X3_68 : jCV RX3 68 iX3_measure 2 := ⟨jinT5 (List.mem_of_getElem? (i := 96) rfl) rfl, wiX3_measure, wlX3_measure, wcX3_measure, wnX3, wpX3_measure, by decide⟩
theorem fl_X3_72 : jFL RX3 72 3 8 0 := ⟨RX3, TX3, 18, rfl, by decide, by decide, jinT2 (List.mem_of_getElem? (i := 159) rfl) rfl, rfl⟩
theorem cv_X3_75 : jCV RX3 75 iX3_findRoute 1 := ⟨jinT5 (List.mem_of_getElem? (i := 102) rfl) rfl, wiX3_findRoute, wlX3_findRoute, wcX3_findRoute, wnX3, wpX3_findRoute, by decide⟩
theorem fl_X3_79 : jFL RX3 79 9 2 2 := ⟨RX9, TX9, 15, rfl, by decide, by decide, jinT2 (List.mem_of_getElem? (i := 81) rfl) rfl, rfl⟩
theorem fl_X3_83 : jFL RX3 83 8 17 2 := ⟨RX8, TX8, 19, rfl, by decide, by decide, jinT2 (List.mem_of_getElem? (i := 32) rfl) rfl, rfl⟩
theorem cv_X3_88 : jCV RX3 88 iX3_canBeGood 2 := ⟨jinT5 (List.mem_of_getElem? (i := 111) rfl) rfl, wiX3_canBeGood, wlX3_canBeGood, wcX3_canBeGood, wnX3, wpX3_canBeGood, by decide⟩
theorem cv_X3_92 : jCV RX3 92 iX3_choose 2 := ⟨jinT5 (List.mem_of_getElem? (i := 115) rfl) rfl, wiX3_choose, wlX3_choose, wcX3_choose, wnX3, wpX3_choose, by decide⟩
theorem cv_X3_96 : jCV RX3 96 iX3_listRoutes 0 := ⟨jinT5 (List.mem_of_getElem? (i := 133) rfl) rfl, wiX3_listRoutes, wlX3_listRoutes, wcX3_listRoutes, wnX3, wpX3_listRoutes, by decide⟩
theorem cs_X3_99 : jCS RX3 99 iJ7_fill_53178 2 := ⟨jinT5 (List.mem_of_getElem? (i := 87) rfl) rfl, wtJ7_fill_53178, wcJ7_fill_53178, wnJ7, wpJ7_fill_53178, by decide⟩
theorem ff_X3_8 : jFfin 3 8 false := ⟨RX3, TX3, 18, rfl, rfl, fun _ => rfl⟩
theorem fz_X3_8 : ∀ x : Int, jfit (jty 3 (Int.toNat 8)) x := fun _ => trivial
theorem fl_X3_105 : jFL RX3 105 3 9 0 := ⟨RX3, TX3, 18, rfl, by decide, by decide, jinT2 (List.mem_of_getElem? (i := 160) rfl) rfl, rfl⟩
theorem ff_X3_9 : jFfin 3 9 false := ⟨RX3, TX3, 18, rfl, rfl, fun _ => rfl⟩
theorem fz_X3_9 : ∀ x : Int, jfit (jty 3 (Int.toNat 9)) x := fun _ => trivial
theorem fl_X3_108 : jFL RX3 108 9 6 0 := ⟨RX9, TX9, 15, rfl, by decide, by decide, jinT2 (List.mem_of_getElem? (i := 90) rfl) rfl, rfl⟩
theorem fl_X3_111 : jFL RX3 111 9 1 2 := ⟨RX9, TX9, 15, rfl, by decide, by decide, jinT2 (List.mem_of_getElem? (i := 79) rfl) rfl, rfl⟩
theorem fl_X3_115 : jFL RX3 115 1 6 2 := ⟨RX1, TX1, 9, rfl, by decide, by decide, jinT1 (List.mem_of_getElem? (i := 195) rfl) rfl, rfl⟩
theorem fl_X3_120 : jFL RX3 120 9 8 2 := ⟨RX9, TX9, 15, rfl, by decide, by decide, jinT2 (List.mem_of_getElem? (i := 95) rfl) rfl, rfl⟩
theorem fl_X3_123 : jFL RX3 123 1 3 2 := ⟨RX1, TX1, 9, rfl, by decide, by decide, jinT1 (List.mem_of_getElem? (i := 185) rfl) rfl, rfl⟩
theorem fl_X3_126 : jFL RX3 126 1 5 2 := ⟨RX1, TX1, 9, rfl, by decide, by decide, jinT1 (List.mem_of_getElem? (i := 191) rfl) rfl, rfl⟩
theorem fl_X3_129 : jFL RX3 129 9 4 0 := ⟨RX9, TX9, 15, rfl, by decide, by decide, jinT2 (List.mem_of_getElem? (i := 85) rfl) rfl, rfl⟩
theorem cv_X3_132 : jCV RX3 132 iX1_isKnown 3 := ⟨jinT5 (List.mem_of_getElem? (i := 92) rfl) rfl, wiX1_isKnown, wlX1_isKnown, wcX1_isKnown, wnX1, wpX1_isKnown, by decide⟩
theorem fl_X3_136 : jFL RX3 136 1 2 2 := ⟨RX1, TX1, 9, rfl, by decide, by decide, jinT1 (List.mem_of_getElem? (i := 182) rfl) rfl, rfl⟩
theorem cs_X3_139 : jCS RX3 139 iX3_riderStop 3 := ⟨jinT5 (List.mem_of_getElem? (i := 93) rfl) rfl, wtX3_riderStop, wcX3_riderStop, wnX3, wpX3_riderStop, by decide⟩
theorem fl_X3_143 : jFL RX3 143 8 9 2 := ⟨RX8, TX8, 19, rfl, by decide, by decide, jinT2 (List.mem_of_getElem? (i := 11) rfl) rfl, rfl⟩
theorem fl_X3_146 : jFL RX3 146 8 12 2 := ⟨RX8, TX8, 19, rfl, by decide, by decide, jinT2 (List.mem_of_getElem? (i := 22) rfl) rfl, rfl⟩
theorem fl_X3_149 : jFL RX3 149 8 11 0 := ⟨RX8, TX8, 19, rfl, by decide, by decide, jinT2 (List.mem_of_getElem? (i := 16) rfl) rfl, rfl⟩
theorem cv_X3_152 : jCV RX3 152 iX9_sumOf 3 := ⟨jinT5 (List.mem_of_getElem? (i := 100) rfl) rfl, wiX9_sumOf, wlX9_sumOf, wcX9_sumOf, wnX9, wpX9_sumOf, by decide⟩
theorem cv_X3_156 : jCV RX3 156 iX3_leastBehind 2 := ⟨jinT5 (List.mem_of_getElem? (i := 106) rfl) rfl, wiX3_leastBehind, wlX3_leastBehind, wcX3_leastBehind, wnX3, wpX3_leastBehind, by decide⟩
theorem cs_X3_165 : jCSN RX3 "SchoolRides" 165 iX10_within 2 := ⟨jinN5 (List.mem_of_getElem? (i := 157) rfl) rfl, wtX10_within, wcX10_within, wnX10, wpX10_within, by decide⟩
theorem cv_X3_169 : jCV RX3 169 iX3_firstWith 3 := ⟨jinT5 (List.mem_of_getElem? (i := 158) rfl) rfl, wiX3_firstWith, wlX3_firstWith, wcX3_firstWith, wnX3, wpX3_firstWith, by decide⟩
theorem cs_X3_173 : jCS RX3 173 iJ6_bitCount_0f7a4 1 := ⟨jinT5 (List.mem_of_getElem? (i := 120) rfl) rfl, wtJ6_bitCount_0f7a4, wcJ6_bitCount_0f7a4, wnJ6, wpJ6_bitCount_0f7a4, by decide⟩
theorem cv_X3_177 : jCV RX3 177 iX3_weighTaxi 3 := ⟨jinT5 (List.mem_of_getElem? (i := 121) rfl) rfl, wiX3_weighTaxi, wlX3_weighTaxi, wcX3_weighTaxi, wnX3, wpX3_weighTaxi, by decide⟩
theorem cv_X3_181 : jCV RX3 181 iX3_payOf 2 := ⟨jinT5 (List.mem_of_getElem? (i := 125) rfl) rfl, wiX3_payOf, wlX3_payOf, wcX3_payOf, wnX3, wpX3_payOf, by decide⟩
theorem cv_X3_185 : jCV RX3 185 iX3_weighRoute 3 := ⟨jinT5 (List.mem_of_getElem? (i := 129) rfl) rfl, wiX3_weighRoute, wlX3_weighRoute, wcX3_weighRoute, wnX3, wpX3_weighRoute, by decide⟩
theorem fl_X3_188 : jFL RX3 188 3 4 0 := ⟨RX3, TX3, 18, rfl, by decide, by decide, jinT2 (List.mem_of_getElem? (i := 151) rfl) rfl, rfl⟩
theorem ff_X3_4 : jFfin 3 4 false := ⟨RX3, TX3, 18, rfl, rfl, fun _ => rfl⟩
theorem fz_X3_4 : ∀ x : Int, jfit (jty 3 (Int.toNat 4)) x := fun _ => trivial
theorem fl_X3_191 : jFL RX3 191 3 6 0 := ⟨RX3, TX3, 18, rfl, by decide, by decide, jinT2 (List.mem_of_getElem? (i := 156) rfl) rfl, rfl⟩
theorem ff_X3_6 : jFfin 3 6 false := ⟨RX3, TX3, 18, rfl, rfl, fun _ => rfl⟩
theorem fz_X3_6 : ∀ x : Int, jfit (jty 3 (Int.toNat 6)) x := fun _ => trivial
theorem cv_X3_194 : jCV RX3 194 iX3_hasPlan 0 := ⟨jinT5 (List.mem_of_getElem? (i := 137) rfl) rfl, wiX3_hasPlan, wlX3_hasPlan, wcX3_hasPlan, wnX3, wpX3_hasPlan, by decide⟩
theorem ci_X4_11 : jCI RX4 11 iX6_init 0 ∨ ∃ host, jCN RX4 host 11 iX6_init 0 := Or.inl ⟨jinT1 (List.mem_of_getElem? (i := 37) rfl) rfl, rfl, rfl, wiX6_init, wcX6_init, wnX6, wpX6_init, by decide⟩
theorem fl_X4_12 : jFL RX4 12 4 2 2 := ⟨RX4, TX4, 15, rfl, by decide, by decide, jinT1 (List.mem_of_getElem? (i := 117) rfl) rfl, rfl⟩
theorem ff_X4_2 : jFfin 4 2 true := ⟨RX4, TX4, 15, rfl, rfl, fun _ => rfl⟩
theorem fz_X4_2 : ∀ x : Int, jfit (jty 4 (Int.toNat 2)) x := fun _ => trivial
theorem fl_X4_18 : jFL RX4 18 4 6 2 := ⟨RX4, TX4, 15, rfl, by decide, by decide, jinT1 (List.mem_of_getElem? (i := 122) rfl) rfl, rfl⟩
theorem ff_X4_6 : jFfin 4 6 true := ⟨RX4, TX4, 15, rfl, rfl, fun _ => rfl⟩
theorem fz_X4_6 : ∀ x : Int, jfit (jty 4 (Int.toNat 6)) x := fun _ => trivial
theorem fl_X4_22 : jFL RX4 22 4 7 2 := ⟨RX4, TX4, 15, rfl, by decide, by decide, jinT1 (List.mem_of_getElem? (i := 123) rfl) rfl, rfl⟩
theorem ff_X4_7 : jFfin 4 7 true := ⟨RX4, TX4, 15, rfl, rfl, fun _ => rfl⟩
theorem fz_X4_7 : ∀ x : Int, jfit (jty 4 (Int.toNat 7)) x := fun _ => trivial
theorem fl_X4_26 : jFL RX4 26 4 9 2 := ⟨RX4, TX4, 15, rfl, by decide, by decide, jinT1 (List.mem_of_getElem? (i := 125) rfl) rfl, rfl⟩
theorem ff_X4_9 : jFfin 4 9 true := ⟨RX4, TX4, 15, rfl, rfl, fun _ => rfl⟩
theorem fz_X4_9 : ∀ x : Int, jfit (jty 4 (Int.toNat 9)) x := fun _ => trivial
theorem fl_X4_29 : jFL RX4 29 4 0 0 := ⟨RX4, TX4, 15, rfl, by decide, by decide, jinT1 (List.mem_of_getElem? (i := 113) rfl) rfl, rfl⟩
theorem ff_X4_0 : jFfin 4 0 false := ⟨RX4, TX4, 15, rfl, rfl, fun _ => rfl⟩
theorem fz_X4_0 : ∀ x : Int, jfit (jty 4 (Int.toNat 0)) x := fun _ => trivial
theorem fl_X4_33 : jFL RX4 33 4 4 0 := ⟨RX4, TX4, 15, rfl, by decide, by decide, jinT1 (List.mem_of_getElem? (i := 120) rfl) rfl, rfl⟩
theorem ff_X4_4 : jFfin 4 4 false := ⟨RX4, TX4, 15, rfl, rfl, fun _ => rfl⟩
theorem fz_X4_4 : ∀ x : Int, jfit (jty 4 (Int.toNat 4)) x := fun _ => trivial
theorem fl_X4_36 : jFL RX4 36 4 3 0 := ⟨RX4, TX4, 15, rfl, by decide, by decide, jinT1 (List.mem_of_getElem? (i := 119) rfl) rfl, rfl⟩
theorem ff_X4_3 : jFfin 4 3 false := ⟨RX4, TX4, 15, rfl, rfl, fun _ => rfl⟩
theorem fz_X4_3 : ∀ x : Int, jfit (jty 4 (Int.toNat 3)) x := fun _ => trivial
theorem fl_X4_39 : jFL RX4 39 4 8 0 := ⟨RX4, TX4, 15, rfl, by decide, by decide, jinT1 (List.mem_of_getElem? (i := 124) rfl) rfl, rfl⟩
theorem ff_X4_8 : jFfin 4 8 false := ⟨RX4, TX4, 15, rfl, rfl, fun _ => rfl⟩
theorem fz_X4_8 : ∀ x : Int, jfit (jty 4 (Int.toNat 8)) x := fun _ => trivial
theorem cv_X4_42 : jCV RX4 42 iX8_clear 0 := ⟨jinT3 (List.mem_of_getElem? (i := 196) rfl) rfl, wiX8_clear, wlX8_clear, wcX8_clear, wnX8, wpX8_clear, by decide⟩
theorem cv_X4_47 : jCV RX4 47 iX6_scan 0 := ⟨jinT3 (List.mem_of_getElem? (i := 203) rfl) rfl, wiX6_scan, wlX6_scan, wcX6_scan, wnX6, wpX6_scan, by decide⟩
theorem cv_X4_50 : jCV RX4 50 iX4_kindAhead 0 := ⟨jinT4 (List.mem_of_getElem? (i := 5) rfl) rfl, wiX4_kindAhead, wlX4_kindAhead, wcX4_kindAhead, wnX4, wpX4_kindAhead, by decide⟩
theorem cv_X4_54 : jCV RX4 54 iX4_readTell 1 := ⟨jinT4 (List.mem_of_getElem? (i := 9) rfl) rfl, wiX4_readTell, wlX4_readTell, wcX4_readTell, wnX4, wpX4_readTell, by decide⟩
theorem fl_X4_58 : jFL RX4 58 4 5 0 := ⟨RX4, TX4, 15, rfl, by decide, by decide, jinT1 (List.mem_of_getElem? (i := 121) rfl) rfl, rfl⟩
theorem fl_X4_61 : jFL RX4 61 4 1 0 := ⟨RX4, TX4, 15, rfl, by decide, by decide, jinT1 (List.mem_of_getElem? (i := 115) rfl) rfl, rfl⟩
theorem ff_X4_1 : jFfin 4 1 false := ⟨RX4, TX4, 15, rfl, rfl, fun _ => rfl⟩
theorem fz_X4_1 : ∀ x : Int, jfit (jty 4 (Int.toNat 1)) x := fun _ => trivial
theorem cv_X4_64 : jCV RX4 64 iX4_readPlace 1 := ⟨jinT4 (List.mem_of_getElem? (i := 13) rfl) rfl, wiX4_readPlace, wlX4_readPlace, wcX4_readPlace, wnX4, wpX4_readPlace, by decide⟩
theorem cv_X4_67 : jCV RX4 67 iX4_readWay 1 := ⟨jinT4 (List.mem_of_getElem? (i := 41) rfl) rfl, wiX4_readWay, wlX4_readWay, wcX4_readWay, wnX4, wpX4_readWay, by decide⟩
theorem cv_X4_70 : jCV RX4 70 iX4_readSchool 1 := ⟨jinT4 (List.mem_of_getElem? (i := 61) rfl) rfl, wiX4_readSchool, wlX4_readSchool, wcX4_readSchool, wnX4, wpX4_readSchool, by decide⟩
theorem cv_X4_73 : jCV RX4 73 iX4_readStop 1 := ⟨jinT4 (List.mem_of_getElem? (i := 69) rfl) rfl, wiX4_readStop, wlX4_readStop, wcX4_readStop, wnX4, wpX4_readStop, by decide⟩
theorem cv_X4_76 : jCV RX4 76 iX4_readRight 1 := ⟨jinT4 (List.mem_of_getElem? (i := 77) rfl) rfl, wiX4_readRight, wlX4_readRight, wcX4_readRight, wnX4, wpX4_readRight, by decide⟩
theorem cv_X4_79 : jCV RX4 79 iX4_readRule 2 := ⟨jinT4 (List.mem_of_getElem? (i := 119) rfl) rfl, wiX4_readRule, wlX4_readRule, wcX4_readRule, wnX4, wpX4_readRule, by decide⟩
theorem cv_X4_83 : jCV RX4 83 iX4_readBus 1 := ⟨jinT4 (List.mem_of_getElem? (i := 123) rfl) rfl, wiX4_readBus, wlX4_readBus, wcX4_readBus, wnX4, wpX4_readBus, by decide⟩
theorem cv_X4_86 : jCV RX4 86 iX4_fail 1 := ⟨jinT4 (List.mem_of_getElem? (i := 21) rfl) rfl, wiX4_fail, wlX4_fail, wcX4_fail, wnX4, wpX4_fail, by decide⟩
theorem fl_X4_90 : jFL RX4 90 8 1 0 := ⟨RX8, TX8, 19, rfl, by decide, by decide, jinT1 (List.mem_of_getElem? (i := 227) rfl) rfl, rfl⟩
theorem cv_X4_93 : jCV RX4 93 iX4_needRoom 2 := ⟨jinT4 (List.mem_of_getElem? (i := 17) rfl) rfl, wiX4_needRoom, wlX4_needRoom, wcX4_needRoom, wnX4, wpX4_needRoom, by decide⟩
theorem cv_X4_97 : jCV RX4 97 iX4_take 1 := ⟨jinT4 (List.mem_of_getElem? (i := 25) rfl) rfl, wiX4_take, wlX4_take, wcX4_take, wnX4, wpX4_take, by decide⟩
theorem cv_X4_100 : jCV RX4 100 iX4_tellName 2 := ⟨jinT4 (List.mem_of_getElem? (i := 29) rfl) rfl, wiX4_tellName, wlX4_tellName, wcX4_tellName, wnX4, wpX4_tellName, by decide⟩
theorem ff_X8_1 : jFfin 8 1 false := ⟨RX8, TX8, 19, rfl, rfl, fun _ => rfl⟩
theorem fz_X8_1 : ∀ x : Int, jfit (jty 8 (Int.toNat 1)) x := fun _ => trivial
theorem fl_X4_103 : jFL RX4 103 8 2 0 := ⟨RX8, TX8, 19, rfl, by decide, by decide, jinT1 (List.mem_of_getElem? (i := 232) rfl) rfl, rfl⟩
theorem cv_X4_106 : jCV RX4 106 iX4_placeNamed 1 := ⟨jinT4 (List.mem_of_getElem? (i := 45) rfl) rfl, wiX4_placeNamed, wlX4_placeNamed, wcX4_placeNamed, wnX4, wpX4_placeNamed, by decide⟩
theorem cv_X4_110 : jCV RX4 110 iX4_wrongIf 2 := ⟨jinT4 (List.mem_of_getElem? (i := 49) rfl) rfl, wiX4_wrongIf, wlX4_wrongIf, wcX4_wrongIf, wnX4, wpX4_wrongIf, by decide⟩
theorem cv_X4_114 : jCV RX4 114 iX4_intAt 1 := ⟨jinT4 (List.mem_of_getElem? (i := 53) rfl) rfl, wiX4_intAt, wlX4_intAt, wcX4_intAt, wnX4, wpX4_intAt, by decide⟩
theorem cv_X4_117 : jCV RX4 117 iX8_addWay 5 := ⟨jinT4 (List.mem_of_getElem? (i := 57) rfl) rfl, wiX8_addWay, wlX8_addWay, wcX8_addWay, wnX8, wpX8_addWay, by decide⟩
theorem fl_X4_121 : jFL RX4 121 8 8 0 := ⟨RX8, TX8, 19, rfl, by decide, by decide, jinT2 (List.mem_of_getElem? (i := 6) rfl) rfl, rfl⟩
theorem cv_X4_124 : jCV RX4 124 iX8_addSchool 2 := ⟨jinT4 (List.mem_of_getElem? (i := 65) rfl) rfl, wiX8_addSchool, wlX8_addSchool, wcX8_addSchool, wnX8, wpX8_addSchool, by decide⟩
theorem fl_X4_127 : jFL RX4 127 8 11 0 := ⟨RX8, TX8, 19, rfl, by decide, by decide, jinT2 (List.mem_of_getElem? (i := 17) rfl) rfl, rfl⟩
theorem cv_X4_130 : jCV RX4 130 iX8_addStop 1 := ⟨jinT4 (List.mem_of_getElem? (i := 73) rfl) rfl, wiX8_addStop, wlX8_addStop, wcX8_addStop, wnX8, wpX8_addStop, by decide⟩
theorem fl_X4_133 : jFL RX4 133 8 17 2 := ⟨RX8, TX8, 19, rfl, by decide, by decide, jinT2 (List.mem_of_getElem? (i := 33) rfl) rfl, rfl⟩
theorem fl_X4_136 : jFL RX4 136 8 13 0 := ⟨RX8, TX8, 19, rfl, by decide, by decide, jinT2 (List.mem_of_getElem? (i := 26) rfl) rfl, rfl⟩
theorem fl_X4_139 : jFL RX4 139 4 10 0 := ⟨RX4, TX4, 15, rfl, by decide, by decide, jinT1 (List.mem_of_getElem? (i := 126) rfl) rfl, rfl⟩
theorem ff_X4_10 : jFfin 4 10 false := ⟨RX4, TX4, 15, rfl, rfl, fun _ => rfl⟩
theorem fz_X4_10 : ∀ x : Int, jfit (jty 4 (Int.toNat 10)) x := fun _ => trivial
theorem fl_X4_142 : jFL RX4 142 4 14 0 := ⟨RX4, TX4, 15, rfl, by decide, by decide, jinT1 (List.mem_of_getElem? (i := 130) rfl) rfl, rfl⟩
theorem ff_X4_14 : jFfin 4 14 false := ⟨RX4, TX4, 15, rfl, rfl, fun _ => rfl⟩
theorem fz_X4_14 : ∀ x : Int, jfit (jty 4 (Int.toNat 14)) x := fun _ => trivial
theorem cv_X4_145 : jCV RX4 145 iX4_beginLiteral 0 := ⟨jinT4 (List.mem_of_getElem? (i := 81) rfl) rfl, wiX4_beginLiteral, wlX4_beginLiteral, wcX4_beginLiteral, wnX4, wpX4_beginLiteral, by decide⟩
theorem fl_X4_148 : jFL RX4 148 4 11 0 := ⟨RX4, TX4, 15, rfl, by decide, by decide, jinT1 (List.mem_of_getElem? (i := 127) rfl) rfl, rfl⟩
theorem cv_X4_152 : jCV RX4 152 iX4_readOperand 1 := ⟨jinT4 (List.mem_of_getElem? (i := 85) rfl) rfl, wiX4_readOperand, wlX4_readOperand, wcX4_readOperand, wnX4, wpX4_readOperand, by decide⟩
theorem cv_X4_155 : jCV RX4 155 iX4_readOperator 1 := ⟨jinT4 (List.mem_of_getElem? (i := 97) rfl) rfl, wiX4_readOperator, wlX4_readOperator, wcX4_readOperator, wnX4, wpX4_readOperator, by decide⟩
theorem cv_X4_159 : jCV RX4 159 iX8_endRight 0 := ⟨jinT4 (List.mem_of_getElem? (i := 115) rfl) rfl, wiX8_endRight, wlX8_endRight, wcX8_endRight, wnX8, wpX8_endRight, by decide⟩
theorem ff_X4_11 : jFfin 4 11 false := ⟨RX4, TX4, 15, rfl, rfl, fun _ => rfl⟩
theorem fz_X4_11 : ∀ x : Int, (x = 0 ∨ x = 1) → jfit (jty 4 (Int.toNat 11)) x := fun _ h => h
theorem fl_X4_162 : jFL RX4 162 4 12 0 := ⟨RX4, TX4, 15, rfl, by decide, by decide, jinT1 (List.mem_of_getElem? (i := 128) rfl) rfl, rfl⟩
theorem ff_X4_12 : jFfin 4 12 false := ⟨RX4, TX4, 15, rfl, rfl, fun _ => rfl⟩
theorem fz_X4_12 : ∀ x : Int, (x = 0 ∨ x = 1) → jfit (jty 4 (Int.toNat 12)) x := fun _ h => h
theorem fl_X4_165 : jFL RX4 165 4 13 0 := ⟨RX4, TX4, 15, rfl, by decide, by decide, jinT1 (List.mem_of_getElem? (i := 129) rfl) rfl, rfl⟩
theorem ff_X4_13 : jFfin 4 13 false := ⟨RX4, TX4, 15, rfl, rfl, fun _ => rfl⟩
theorem fz_X4_13 : ∀ x : Int, (x = 0 ∨ x = 1) → jfit (jty 4 (Int.toNat 13)) x := fun _ h => h
theorem cv_X4_168 : jCV RX4 168 iX4_await 1 := ⟨jinT4 (List.mem_of_getElem? (i := 89) rfl) rfl, wiX4_await, wlX4_await, wcX4_await, wnX4, wpX4_await, by decide⟩
theorem cv_X4_171 : jCV RX4 171 iX8_addCode 1 := ⟨jinT4 (List.mem_of_getElem? (i := 93) rfl) rfl, wiX8_addCode, wlX8_addCode, wcX8_addCode, wnX8, wpX8_addCode, by decide⟩
theorem cv_X4_174 : jCV RX4 174 iX4_settle 2 := ⟨jinT4 (List.mem_of_getElem? (i := 101) rfl) rfl, wiX4_settle, wlX4_settle, wcX4_settle, wnX4, wpX4_settle, by decide⟩
theorem cv_X4_177 : jCV RX4 177 iX4_mayFollowOperand 1 := ⟨jinT4 (List.mem_of_getElem? (i := 108) rfl) rfl, wiX4_mayFollowOperand, wlX4_mayFollowOperand, wcX4_mayFollowOperand, wnX4, wpX4_mayFollowOperand, by decide⟩
theorem cs_X4_181 : jCS RX4 181 iX4_strengthOf 1 := ⟨jinT4 (List.mem_of_getElem? (i := 105) rfl) rfl, wtX4_strengthOf, wcX4_strengthOf, wnX4, wpX4_strengthOf, by decide⟩
theorem cs_X4_184 : jCS RX4 184 iX4_isComparison 1 := ⟨jinT4 (List.mem_of_getElem? (i := 112) rfl) rfl, wtX4_isComparison, wcX4_isComparison, wnX4, wpX4_isComparison, by decide⟩
theorem fl_X4_187 : jFL RX4 187 6 2 2 := ⟨RX6, TX6, 6, rfl, by decide, by decide, jinT1 (List.mem_of_getElem? (i := 91) rfl) rfl, rfl⟩
theorem fl_X4_190 : jFL RX4 190 6 4 2 := ⟨RX6, TX6, 6, rfl, by decide, by decide, jinT1 (List.mem_of_getElem? (i := 95) rfl) rfl, rfl⟩
theorem fl_X4_193 : jFL RX4 193 6 3 2 := ⟨RX6, TX6, 6, rfl, by decide, by decide, jinT1 (List.mem_of_getElem? (i := 93) rfl) rfl, rfl⟩
theorem cv_X4_196 : jCV RX4 196 iX4_failLate 2 := ⟨jinT4 (List.mem_of_getElem? (i := 37) rfl) rfl, wiX4_failLate, wlX4_failLate, wcX4_failLate, wnX4, wpX4_failLate, by decide⟩
theorem ff_X4_5 : jFfin 4 5 false := ⟨RX4, TX4, 15, rfl, rfl, fun _ => rfl⟩
theorem fz_X4_5 : ∀ x : Int, jfit (jty 4 (Int.toNat 5)) x := fun _ => trivial
theorem cv_X4_199 : jCV RX4 199 iX4_indexOfName 1 := ⟨jinT4 (List.mem_of_getElem? (i := 33) rfl) rfl, wiX4_indexOfName, wlX4_indexOfName, wcX4_indexOfName, wnX4, wpX4_indexOfName, by decide⟩
theorem fl_X5_11 : jFL RX5 11 5 1 2 := ⟨RX5, TX5, 6, rfl, by decide, by decide, jinT3 (List.mem_of_getElem? (i := 108) rfl) rfl, rfl⟩
theorem ff_X5_1 : jFfin 5 1 true := ⟨RX5, TX5, 6, rfl, rfl, fun _ => rfl⟩
theorem fz_X5_1 : ∀ x : Int, jfit (jty 5 (Int.toNat 1)) x := fun _ => trivial
theorem fl_X5_15 : jFL RX5 15 5 2 2 := ⟨RX5, TX5, 6, rfl, by decide, by decide, jinT3 (List.mem_of_getElem? (i := 110) rfl) rfl, rfl⟩
theorem ff_X5_2 : jFfin 5 2 true := ⟨RX5, TX5, 6, rfl, rfl, fun _ => rfl⟩
theorem fz_X5_2 : ∀ x : Int, jfit (jty 5 (Int.toNat 2)) x := fun _ => trivial
theorem fl_X5_18 : jFL RX5 18 5 3 2 := ⟨RX5, TX5, 6, rfl, by decide, by decide, jinT3 (List.mem_of_getElem? (i := 111) rfl) rfl, rfl⟩
theorem ff_X5_3 : jFfin 5 3 true := ⟨RX5, TX5, 6, rfl, rfl, fun _ => rfl⟩
theorem fz_X5_3 : ∀ x : Int, jfit (jty 5 (Int.toNat 3)) x := fun _ => trivial
theorem fl_X5_21 : jFL RX5 21 5 4 2 := ⟨RX5, TX5, 6, rfl, by decide, by decide, jinT3 (List.mem_of_getElem? (i := 112) rfl) rfl, rfl⟩
theorem ff_X5_4 : jFfin 5 4 true := ⟨RX5, TX5, 6, rfl, rfl, fun _ => rfl⟩
theorem fz_X5_4 : ∀ x : Int, jfit (jty 5 (Int.toNat 4)) x := fun _ => trivial
theorem fl_X5_24 : jFL RX5 24 5 5 2 := ⟨RX5, TX5, 6, rfl, by decide, by decide, jinT3 (List.mem_of_getElem? (i := 113) rfl) rfl, rfl⟩
theorem ff_X5_5 : jFfin 5 5 true := ⟨RX5, TX5, 6, rfl, rfl, fun _ => rfl⟩
theorem fz_X5_5 : ∀ x : Int, jfit (jty 5 (Int.toNat 5)) x := fun _ => trivial
theorem fl_X5_27 : jFL RX5 27 5 0 0 := ⟨RX5, TX5, 6, rfl, by decide, by decide, jinT3 (List.mem_of_getElem? (i := 106) rfl) rfl, rfl⟩
theorem ff_X5_0 : jFfin 5 0 false := ⟨RX5, TX5, 6, rfl, rfl, fun _ => rfl⟩
theorem fz_X5_0 : ∀ x : Int, jfit (jty 5 (Int.toNat 0)) x := fun _ => trivial
theorem cs_X5_32 : jCS RX5 32 iJ7_fill_53178 2 := ⟨jinT6 (List.mem_of_getElem? (i := 150) rfl) rfl, wtJ7_fill_53178, wcJ7_fill_53178, wnJ7, wpJ7_fill_53178, by decide⟩
theorem cv_X5_38 : jCV RX5 38 iX5_spread 1 := ⟨jinT6 (List.mem_of_getElem? (i := 159) rfl) rfl, wiX5_spread, wlX5_spread, wcX5_spread, wnX5, wpX5_spread, by decide⟩
theorem fl_X6_11 : jFL RX6 11 6 0 2 := ⟨RX6, TX6, 6, rfl, by decide, by decide, jinT1 (List.mem_of_getElem? (i := 87) rfl) rfl, rfl⟩
theorem ff_X6_0 : jFfin 6 0 true := ⟨RX6, TX6, 6, rfl, rfl, fun _ => rfl⟩
theorem fz_X6_0 : ∀ x : Int, jfit (jty 6 (Int.toNat 0)) x := fun _ => trivial
theorem fl_X6_15 : jFL RX6 15 6 2 2 := ⟨RX6, TX6, 6, rfl, by decide, by decide, jinT1 (List.mem_of_getElem? (i := 90) rfl) rfl, rfl⟩
theorem ff_X6_2 : jFfin 6 2 true := ⟨RX6, TX6, 6, rfl, rfl, fun _ => rfl⟩
theorem fz_X6_2 : ∀ x : Int, jfit (jty 6 (Int.toNat 2)) x := fun _ => trivial
theorem fl_X6_18 : jFL RX6 18 6 3 2 := ⟨RX6, TX6, 6, rfl, by decide, by decide, jinT1 (List.mem_of_getElem? (i := 92) rfl) rfl, rfl⟩
theorem ff_X6_3 : jFfin 6 3 true := ⟨RX6, TX6, 6, rfl, rfl, fun _ => rfl⟩
theorem fz_X6_3 : ∀ x : Int, jfit (jty 6 (Int.toNat 3)) x := fun _ => trivial
theorem fl_X6_21 : jFL RX6 21 6 4 2 := ⟨RX6, TX6, 6, rfl, by decide, by decide, jinT1 (List.mem_of_getElem? (i := 94) rfl) rfl, rfl⟩
theorem ff_X6_4 : jFfin 6 4 true := ⟨RX6, TX6, 6, rfl, rfl, fun _ => rfl⟩
theorem fz_X6_4 : ∀ x : Int, jfit (jty 6 (Int.toNat 4)) x := fun _ => trivial
theorem fl_X6_25 : jFL RX6 25 6 5 2 := ⟨RX6, TX6, 6, rfl, by decide, by decide, jinT1 (List.mem_of_getElem? (i := 96) rfl) rfl, rfl⟩
theorem ff_X6_5 : jFfin 6 5 true := ⟨RX6, TX6, 6, rfl, rfl, fun _ => rfl⟩
theorem fz_X6_5 : ∀ x : Int, jfit (jty 6 (Int.toNat 5)) x := fun _ => trivial
theorem cs_X6_36 : jCS RX6 36 iX6_withLetter 2 := ⟨jinT1 (List.mem_of_getElem? (i := 82) rfl) rfl, wtX6_withLetter, wcX6_withLetter, wnX6, wpX6_withLetter, by decide⟩
theorem fl_X6_40 : jFL RX6 40 6 1 0 := ⟨RX6, TX6, 6, rfl, by decide, by decide, jinT1 (List.mem_of_getElem? (i := 89) rfl) rfl, rfl⟩
theorem ff_X6_1 : jFfin 6 1 false := ⟨RX6, TX6, 6, rfl, rfl, fun _ => rfl⟩
theorem fz_X6_1 : ∀ x : Int, jfit (jty 6 (Int.toNat 1)) x := fun _ => trivial
theorem cv_X6_44 : jCV RX6 44 iX6_skipBlanks 1 := ⟨jinT3 (List.mem_of_getElem? (i := 207) rfl) rfl, wiX6_skipBlanks, wlX6_skipBlanks, wcX6_skipBlanks, wnX6, wpX6_skipBlanks, by decide⟩
theorem cv_X6_48 : jCV RX6 48 iX6_scanToken 2 := ⟨jinT3 (List.mem_of_getElem? (i := 218) rfl) rfl, wiX6_scanToken, wlX6_scanToken, wcX6_scanToken, wnX6, wpX6_scanToken, by decide⟩
theorem cv_X6_52 : jCV RX6 52 iX6_byteAt 1 := ⟨jinT3 (List.mem_of_getElem? (i := 211) rfl) rfl, wiX6_byteAt, wlX6_byteAt, wcX6_byteAt, wnX6, wpX6_byteAt, by decide⟩
theorem cs_X6_55 : jCS RX6 55 iX6_isBlank 1 := ⟨jinT3 (List.mem_of_getElem? (i := 215) rfl) rfl, wtX6_isBlank, wcX6_isBlank, wnX6, wpX6_isBlank, by decide⟩
theorem cs_X6_59 : jCS RX6 59 iX6_isLetter 1 := ⟨jinT3 (List.mem_of_getElem? (i := 222) rfl) rfl, wtX6_isLetter, wcX6_isLetter, wnX6, wpX6_isLetter, by decide⟩
theorem cv_X6_62 : jCV RX6 62 iX6_scanWord 2 := ⟨jinT3 (List.mem_of_getElem? (i := 225) rfl) rfl, wiX6_scanWord, wlX6_scanWord, wcX6_scanWord, wnX6, wpX6_scanWord, by decide⟩
theorem cs_X6_65 : jCS RX6 65 iX6_isDigit 1 := ⟨jinT3 (List.mem_of_getElem? (i := 233) rfl) rfl, wtX6_isDigit, wcX6_isDigit, wnX6, wpX6_isDigit, by decide⟩
theorem cv_X6_68 : jCV RX6 68 iX6_scanInt 2 := ⟨jinT3 (List.mem_of_getElem? (i := 236) rfl) rfl, wiX6_scanInt, wlX6_scanInt, wcX6_scanInt, wnX6, wpX6_scanInt, by decide⟩
theorem cs_X6_71 : jCS RX6 71 iX6_kindOfSign 2 := ⟨jinT4 (List.mem_of_getElem? (i := 2) rfl) rfl, wtX6_kindOfSign, wcX6_kindOfSign, wnX6, wpX6_kindOfSign, by decide⟩
theorem cv_X6_74 : jCV RX6 74 iX6_kindOfWord 1 := ⟨jinT3 (List.mem_of_getElem? (i := 229) rfl) rfl, wiX6_kindOfWord, wlX6_kindOfWord, wcX6_kindOfWord, wnX6, wpX6_kindOfWord, by decide⟩
theorem fl_X7_11 : jFL RX7 11 7 1 2 := ⟨RX7, TX7, 9, rfl, by decide, by decide, jinT3 (List.mem_of_getElem? (i := 39) rfl) rfl, rfl⟩
theorem ff_X7_1 : jFfin 7 1 true := ⟨RX7, TX7, 9, rfl, rfl, fun _ => rfl⟩
theorem fz_X7_1 : ∀ x : Int, jfit (jty 7 (Int.toNat 1)) x := fun _ => trivial
theorem fl_X7_15 : jFL RX7 15 7 2 2 := ⟨RX7, TX7, 9, rfl, by decide, by decide, jinT3 (List.mem_of_getElem? (i := 41) rfl) rfl, rfl⟩
theorem ff_X7_2 : jFfin 7 2 true := ⟨RX7, TX7, 9, rfl, rfl, fun _ => rfl⟩
theorem fz_X7_2 : ∀ x : Int, jfit (jty 7 (Int.toNat 2)) x := fun _ => trivial
theorem fl_X7_18 : jFL RX7 18 7 3 2 := ⟨RX7, TX7, 9, rfl, by decide, by decide, jinT3 (List.mem_of_getElem? (i := 42) rfl) rfl, rfl⟩
theorem ff_X7_3 : jFfin 7 3 true := ⟨RX7, TX7, 9, rfl, rfl, fun _ => rfl⟩
theorem fz_X7_3 : ∀ x : Int, jfit (jty 7 (Int.toNat 3)) x := fun _ => trivial
theorem fl_X7_21 : jFL RX7 21 7 4 2 := ⟨RX7, TX7, 9, rfl, by decide, by decide, jinT3 (List.mem_of_getElem? (i := 43) rfl) rfl, rfl⟩
theorem ff_X7_4 : jFfin 7 4 true := ⟨RX7, TX7, 9, rfl, rfl, fun _ => rfl⟩
theorem fz_X7_4 : ∀ x : Int, jfit (jty 7 (Int.toNat 4)) x := fun _ => trivial
theorem fl_X7_24 : jFL RX7 24 7 5 2 := ⟨RX7, TX7, 9, rfl, by decide, by decide, jinT3 (List.mem_of_getElem? (i := 44) rfl) rfl, rfl⟩
theorem ff_X7_5 : jFfin 7 5 true := ⟨RX7, TX7, 9, rfl, rfl, fun _ => rfl⟩
theorem fz_X7_5 : ∀ x : Int, jfit (jty 7 (Int.toNat 5)) x := fun _ => trivial
theorem fl_X7_27 : jFL RX7 27 7 6 2 := ⟨RX7, TX7, 9, rfl, by decide, by decide, jinT3 (List.mem_of_getElem? (i := 45) rfl) rfl, rfl⟩
theorem ff_X7_6 : jFfin 7 6 true := ⟨RX7, TX7, 9, rfl, rfl, fun _ => rfl⟩
theorem fz_X7_6 : ∀ x : Int, jfit (jty 7 (Int.toNat 6)) x := fun _ => trivial
theorem fl_X7_31 : jFL RX7 31 7 0 0 := ⟨RX7, TX7, 9, rfl, by decide, by decide, jinT3 (List.mem_of_getElem? (i := 37) rfl) rfl, rfl⟩
theorem ff_X7_0 : jFfin 7 0 false := ⟨RX7, TX7, 9, rfl, rfl, fun _ => rfl⟩
theorem fz_X7_0 : ∀ x : Int, jfit (jty 7 (Int.toNat 0)) x := fun _ => trivial
theorem fl_X7_35 : jFL RX7 35 7 7 0 := ⟨RX7, TX7, 9, rfl, by decide, by decide, jinT3 (List.mem_of_getElem? (i := 46) rfl) rfl, rfl⟩
theorem ff_X7_7 : jFfin 7 7 false := ⟨RX7, TX7, 9, rfl, rfl, fun _ => rfl⟩
theorem fz_X7_7 : ∀ x : Int, jfit (jty 7 (Int.toNat 7)) x := fun _ => trivial
theorem fl_X7_38 : jFL RX7 38 7 8 0 := ⟨RX7, TX7, 9, rfl, by decide, by decide, jinT3 (List.mem_of_getElem? (i := 47) rfl) rfl, rfl⟩
theorem ff_X7_8 : jFfin 7 8 false := ⟨RX7, TX7, 9, rfl, rfl, fun _ => rfl⟩
theorem fz_X7_8 : ∀ x : Int, jfit (jty 7 (Int.toNat 8)) x := fun _ => trivial
theorem cv_X7_41 : jCV RX7 41 iX7_markReached 2 := ⟨jinT6 (List.mem_of_getElem? (i := 54) rfl) rfl, wiX7_markReached, wlX7_markReached, wcX7_markReached, wnX7, wpX7_markReached, by decide⟩
theorem cv_X7_45 : jCV RX7 45 iX7_choose 2 := ⟨jinT6 (List.mem_of_getElem? (i := 62) rfl) rfl, wiX7_choose, wlX7_choose, wcX7_choose, wnX7, wpX7_choose, by decide⟩
theorem cv_X7_48 : jCV RX7 48 iX7_fits 3 := ⟨jinT6 (List.mem_of_getElem? (i := 58) rfl) rfl, wiX7_fits, wlX7_fits, wcX7_fits, wnX7, wpX7_fits, by decide⟩
theorem fl_X8_9 : jFL RX8 9 8 3 2 := ⟨RX8, TX8, 19, rfl, by decide, by decide, jinT1 (List.mem_of_getElem? (i := 234) rfl) rfl, rfl⟩
theorem ff_X8_3 : jFfin 8 3 true := ⟨RX8, TX8, 19, rfl, rfl, fun _ => rfl⟩
theorem fz_X8_3 : ∀ x : Int, jfit (jty 8 (Int.toNat 3)) x := fun _ => trivial
theorem fl_X8_15 : jFL RX8 15 8 4 2 := ⟨RX8, TX8, 19, rfl, by decide, by decide, jinT1 (List.mem_of_getElem? (i := 236) rfl) rfl, rfl⟩
theorem ff_X8_4 : jFfin 8 4 true := ⟨RX8, TX8, 19, rfl, rfl, fun _ => rfl⟩
theorem fz_X8_4 : ∀ x : Int, jfit (jty 8 (Int.toNat 4)) x := fun _ => trivial
theorem fl_X8_18 : jFL RX8 18 8 5 2 := ⟨RX8, TX8, 19, rfl, by decide, by decide, jinT1 (List.mem_of_getElem? (i := 238) rfl) rfl, rfl⟩
theorem ff_X8_5 : jFfin 8 5 true := ⟨RX8, TX8, 19, rfl, rfl, fun _ => rfl⟩
theorem fz_X8_5 : ∀ x : Int, jfit (jty 8 (Int.toNat 5)) x := fun _ => trivial
theorem fl_X8_21 : jFL RX8 21 8 6 2 := ⟨RX8, TX8, 19, rfl, by decide, by decide, jinT2 (List.mem_of_getElem? (i := 0) rfl) rfl, rfl⟩
theorem ff_X8_6 : jFfin 8 6 true := ⟨RX8, TX8, 19, rfl, rfl, fun _ => rfl⟩
theorem fz_X8_6 : ∀ x : Int, jfit (jty 8 (Int.toNat 6)) x := fun _ => trivial
theorem fl_X8_24 : jFL RX8 24 8 9 2 := ⟨RX8, TX8, 19, rfl, by decide, by decide, jinT2 (List.mem_of_getElem? (i := 9) rfl) rfl, rfl⟩
theorem ff_X8_9 : jFfin 8 9 true := ⟨RX8, TX8, 19, rfl, rfl, fun _ => rfl⟩
theorem fz_X8_9 : ∀ x : Int, jfit (jty 8 (Int.toNat 9)) x := fun _ => trivial
theorem fl_X8_27 : jFL RX8 27 8 10 2 := ⟨RX8, TX8, 19, rfl, by decide, by decide, jinT2 (List.mem_of_getElem? (i := 13) rfl) rfl, rfl⟩
theorem ff_X8_10 : jFfin 8 10 true := ⟨RX8, TX8, 19, rfl, rfl, fun _ => rfl⟩
theorem fz_X8_10 : ∀ x : Int, jfit (jty 8 (Int.toNat 10)) x := fun _ => trivial
theorem fl_X8_30 : jFL RX8 30 8 12 2 := ⟨RX8, TX8, 19, rfl, by decide, by decide, jinT2 (List.mem_of_getElem? (i := 20) rfl) rfl, rfl⟩
theorem ff_X8_12 : jFfin 8 12 true := ⟨RX8, TX8, 19, rfl, rfl, fun _ => rfl⟩
theorem fz_X8_12 : ∀ x : Int, jfit (jty 8 (Int.toNat 12)) x := fun _ => trivial
theorem fl_X8_33 : jFL RX8 33 8 14 2 := ⟨RX8, TX8, 19, rfl, by decide, by decide, jinT2 (List.mem_of_getElem? (i := 28) rfl) rfl, rfl⟩
theorem ff_X8_14 : jFfin 8 14 true := ⟨RX8, TX8, 19, rfl, rfl, fun _ => rfl⟩
theorem fz_X8_14 : ∀ x : Int, jfit (jty 8 (Int.toNat 14)) x := fun _ => trivial
theorem fl_X8_38 : jFL RX8 38 8 15 2 := ⟨RX8, TX8, 19, rfl, by decide, by decide, jinT2 (List.mem_of_getElem? (i := 29) rfl) rfl, rfl⟩
theorem ff_X8_15 : jFfin 8 15 true := ⟨RX8, TX8, 19, rfl, rfl, fun _ => rfl⟩
theorem fz_X8_15 : ∀ x : Int, jfit (jty 8 (Int.toNat 15)) x := fun _ => trivial
theorem fl_X8_44 : jFL RX8 44 8 17 2 := ⟨RX8, TX8, 19, rfl, by decide, by decide, jinT2 (List.mem_of_getElem? (i := 31) rfl) rfl, rfl⟩
theorem ff_X8_17 : jFfin 8 17 true := ⟨RX8, TX8, 19, rfl, rfl, fun _ => rfl⟩
theorem fz_X8_17 : ∀ x : Int, jfit (jty 8 (Int.toNat 17)) x := fun _ => trivial
theorem fl_X8_47 : jFL RX8 47 8 18 2 := ⟨RX8, TX8, 19, rfl, by decide, by decide, jinT2 (List.mem_of_getElem? (i := 35) rfl) rfl, rfl⟩
theorem ff_X8_18 : jFfin 8 18 true := ⟨RX8, TX8, 19, rfl, rfl, fun _ => rfl⟩
theorem fz_X8_18 : ∀ x : Int, jfit (jty 8 (Int.toNat 18)) x := fun _ => trivial
theorem fl_X8_50 : jFL RX8 50 8 1 0 := ⟨RX8, TX8, 19, rfl, by decide, by decide, jinT1 (List.mem_of_getElem? (i := 226) rfl) rfl, rfl⟩
theorem fl_X8_54 : jFL RX8 54 8 2 0 := ⟨RX8, TX8, 19, rfl, by decide, by decide, jinT1 (List.mem_of_getElem? (i := 230) rfl) rfl, rfl⟩
theorem ff_X8_2 : jFfin 8 2 false := ⟨RX8, TX8, 19, rfl, rfl, fun _ => rfl⟩
theorem fz_X8_2 : ∀ x : Int, jfit (jty 8 (Int.toNat 2)) x := fun _ => trivial
theorem fl_X8_57 : jFL RX8 57 8 7 0 := ⟨RX8, TX8, 19, rfl, by decide, by decide, jinT2 (List.mem_of_getElem? (i := 2) rfl) rfl, rfl⟩
theorem ff_X8_7 : jFfin 8 7 false := ⟨RX8, TX8, 19, rfl, rfl, fun _ => rfl⟩
theorem fz_X8_7 : ∀ x : Int, jfit (jty 8 (Int.toNat 7)) x := fun _ => trivial
theorem fl_X8_60 : jFL RX8 60 8 8 0 := ⟨RX8, TX8, 19, rfl, by decide, by decide, jinT2 (List.mem_of_getElem? (i := 5) rfl) rfl, rfl⟩
theorem ff_X8_8 : jFfin 8 8 false := ⟨RX8, TX8, 19, rfl, rfl, fun _ => rfl⟩
theorem fz_X8_8 : ∀ x : Int, jfit (jty 8 (Int.toNat 8)) x := fun _ => trivial
theorem fl_X8_63 : jFL RX8 63 8 11 0 := ⟨RX8, TX8, 19, rfl, by decide, by decide, jinT2 (List.mem_of_getElem? (i := 15) rfl) rfl, rfl⟩
theorem ff_X8_11 : jFfin 8 11 false := ⟨RX8, TX8, 19, rfl, rfl, fun _ => rfl⟩
theorem fz_X8_11 : ∀ x : Int, jfit (jty 8 (Int.toNat 11)) x := fun _ => trivial
theorem fl_X8_66 : jFL RX8 66 8 13 0 := ⟨RX8, TX8, 19, rfl, by decide, by decide, jinT2 (List.mem_of_getElem? (i := 25) rfl) rfl, rfl⟩
theorem ff_X8_13 : jFfin 8 13 false := ⟨RX8, TX8, 19, rfl, rfl, fun _ => rfl⟩
theorem fz_X8_13 : ∀ x : Int, jfit (jty 8 (Int.toNat 13)) x := fun _ => trivial
theorem fl_X8_69 : jFL RX8 69 8 16 0 := ⟨RX8, TX8, 19, rfl, by decide, by decide, jinT2 (List.mem_of_getElem? (i := 30) rfl) rfl, rfl⟩
theorem ff_X8_16 : jFfin 8 16 false := ⟨RX8, TX8, 19, rfl, rfl, fun _ => rfl⟩
theorem fz_X8_16 : ∀ x : Int, jfit (jty 8 (Int.toNat 16)) x := fun _ => trivial
theorem cv_X8_78 : jCV RX8 78 iX8_holds 3 := ⟨jinT5 (List.mem_of_getElem? (i := 33) rfl) rfl, wiX8_holds, wlX8_holds, wcX8_holds, wnX8, wpX8_holds, by decide⟩
theorem cs_X8_82 : jCS RX8 82 iX8_combine 3 := ⟨jinT5 (List.mem_of_getElem? (i := 37) rfl) rfl, wtX8_combine, wcX8_combine, wnX8, wpX8_combine, by decide⟩
theorem fl_X9_11 : jFL RX9 11 9 0 2 := ⟨RX9, TX9, 15, rfl, by decide, by decide, jinT2 (List.mem_of_getElem? (i := 75) rfl) rfl, rfl⟩
theorem ff_X9_0 : jFfin 9 0 true := ⟨RX9, TX9, 15, rfl, rfl, fun _ => rfl⟩
theorem fz_X9_0 : ∀ x : Int, jfit (jty 9 (Int.toNat 0)) x := fun _ => trivial
theorem ci_X9_19 : jCI RX9 19 iX1_init 0 ∨ ∃ host, jCN RX9 host 19 iX1_init 0 := Or.inr ⟨"SchoolRides", jinN1 (List.mem_of_getElem? (i := 172) rfl) rfl, rfl, rfl, wiX1_init, wcX1_init, wnX1, wpX1_init, by decide⟩
theorem fl_X9_20 : jFL RX9 20 9 1 2 := ⟨RX9, TX9, 15, rfl, by decide, by decide, jinT2 (List.mem_of_getElem? (i := 77) rfl) rfl, rfl⟩
theorem ff_X9_1 : jFfin 9 1 true := ⟨RX9, TX9, 15, rfl, rfl, fun _ => rfl⟩
theorem fz_X9_1 : ∀ x : Int, jfit (jty 9 (Int.toNat 1)) x := fun _ => trivial
theorem fl_X9_24 : jFL RX9 24 9 7 2 := ⟨RX9, TX9, 15, rfl, by decide, by decide, jinT2 (List.mem_of_getElem? (i := 92) rfl) rfl, rfl⟩
theorem ff_X9_7 : jFfin 9 7 true := ⟨RX9, TX9, 15, rfl, rfl, fun _ => rfl⟩
theorem fz_X9_7 : ∀ x : Int, jfit (jty 9 (Int.toNat 7)) x := fun _ => trivial
theorem fl_X9_28 : jFL RX9 28 9 8 2 := ⟨RX9, TX9, 15, rfl, by decide, by decide, jinT2 (List.mem_of_getElem? (i := 94) rfl) rfl, rfl⟩
theorem ff_X9_8 : jFfin 9 8 true := ⟨RX9, TX9, 15, rfl, rfl, fun _ => rfl⟩
theorem fz_X9_8 : ∀ x : Int, jfit (jty 9 (Int.toNat 8)) x := fun _ => trivial
theorem fl_X9_31 : jFL RX9 31 9 10 2 := ⟨RX9, TX9, 15, rfl, by decide, by decide, jinT2 (List.mem_of_getElem? (i := 98) rfl) rfl, rfl⟩
theorem ff_X9_10 : jFfin 9 10 true := ⟨RX9, TX9, 15, rfl, rfl, fun _ => rfl⟩
theorem fz_X9_10 : ∀ x : Int, jfit (jty 9 (Int.toNat 10)) x := fun _ => trivial
theorem fl_X9_34 : jFL RX9 34 9 11 2 := ⟨RX9, TX9, 15, rfl, by decide, by decide, jinT2 (List.mem_of_getElem? (i := 99) rfl) rfl, rfl⟩
theorem ff_X9_11 : jFfin 9 11 true := ⟨RX9, TX9, 15, rfl, rfl, fun _ => rfl⟩
theorem fz_X9_11 : ∀ x : Int, jfit (jty 9 (Int.toNat 11)) x := fun _ => trivial
theorem fl_X9_37 : jFL RX9 37 9 12 2 := ⟨RX9, TX9, 15, rfl, by decide, by decide, jinT2 (List.mem_of_getElem? (i := 100) rfl) rfl, rfl⟩
theorem ff_X9_12 : jFfin 9 12 true := ⟨RX9, TX9, 15, rfl, rfl, fun _ => rfl⟩
theorem fz_X9_12 : ∀ x : Int, jfit (jty 9 (Int.toNat 12)) x := fun _ => trivial
theorem fl_X9_40 : jFL RX9 40 9 14 2 := ⟨RX9, TX9, 15, rfl, by decide, by decide, jinT2 (List.mem_of_getElem? (i := 102) rfl) rfl, rfl⟩
theorem ff_X9_14 : jFfin 9 14 true := ⟨RX9, TX9, 15, rfl, rfl, fun _ => rfl⟩
theorem fz_X9_14 : ∀ x : Int, jfit (jty 9 (Int.toNat 14)) x := fun _ => trivial
theorem ci_X9_43 : jCI RX9 43 iX8_init 0 ∨ ∃ host, jCN RX9 host 43 iX8_init 0 := Or.inr ⟨"SchoolRides", jinN1 (List.mem_of_getElem? (i := 219) rfl) rfl, rfl, rfl, wiX8_init, wcX8_init, wnX8, wpX8_init, by decide⟩
theorem fl_X9_44 : jFL RX9 44 9 2 2 := ⟨RX9, TX9, 15, rfl, by decide, by decide, jinT2 (List.mem_of_getElem? (i := 80) rfl) rfl, rfl⟩
theorem ff_X9_2 : jFfin 9 2 false := ⟨RX9, TX9, 15, rfl, rfl, fun _ => rfl⟩
theorem fz_X9_2 : ∀ x : Int, jfit (jty 9 (Int.toNat 2)) x := fun _ => trivial
theorem fl_X9_48 : jFL RX9 48 9 9 0 := ⟨RX9, TX9, 15, rfl, by decide, by decide, jinT2 (List.mem_of_getElem? (i := 97) rfl) rfl, rfl⟩
theorem ff_X9_9 : jFfin 9 9 false := ⟨RX9, TX9, 15, rfl, rfl, fun _ => rfl⟩
theorem fz_X9_9 : ∀ x : Int, jfit (jty 9 (Int.toNat 9)) x := fun _ => trivial
theorem cs_X9_52 : jCSN RX9 "SchoolRides" 52 iX10_within 2 := ⟨jinN4 (List.mem_of_getElem? (i := 222) rfl) rfl, wtX10_within, wcX10_within, wnX10, wpX10_within, by decide⟩
theorem fl_X9_56 : jFL RX9 56 9 3 0 := ⟨RX9, TX9, 15, rfl, by decide, by decide, jinT2 (List.mem_of_getElem? (i := 83) rfl) rfl, rfl⟩
theorem fl_X9_59 : jFL RX9 59 9 4 0 := ⟨RX9, TX9, 15, rfl, by decide, by decide, jinT2 (List.mem_of_getElem? (i := 84) rfl) rfl, rfl⟩
theorem ff_X9_3 : jFfin 9 3 false := ⟨RX9, TX9, 15, rfl, rfl, fun _ => rfl⟩
theorem fz_X9_3 : ∀ x : Int, jfit (jty 9 (Int.toNat 3)) x := fun _ => trivial
theorem ff_X9_4 : jFfin 9 4 false := ⟨RX9, TX9, 15, rfl, rfl, fun _ => rfl⟩
theorem fz_X9_4 : ∀ x : Int, jfit (jty 9 (Int.toNat 4)) x := fun _ => trivial
theorem fl_X9_62 : jFL RX9 62 9 5 0 := ⟨RX9, TX9, 15, rfl, by decide, by decide, jinT2 (List.mem_of_getElem? (i := 87) rfl) rfl, rfl⟩
theorem ff_X9_5 : jFfin 9 5 false := ⟨RX9, TX9, 15, rfl, rfl, fun _ => rfl⟩
theorem fz_X9_5 : ∀ x : Int, jfit (jty 9 (Int.toNat 5)) x := fun _ => trivial
theorem cv_X9_65 : jCV RX9 65 iX1_childrenKnown 1 := ⟨jinT4 (List.mem_of_getElem? (i := 223) rfl) rfl, wiX1_childrenKnown, wlX1_childrenKnown, wcX1_childrenKnown, wnX1, wpX1_childrenKnown, by decide⟩
theorem fl_X9_69 : jFL RX9 69 9 6 0 := ⟨RX9, TX9, 15, rfl, by decide, by decide, jinT2 (List.mem_of_getElem? (i := 89) rfl) rfl, rfl⟩
theorem ff_X9_6 : jFfin 9 6 false := ⟨RX9, TX9, 15, rfl, rfl, fun _ => rfl⟩
theorem fz_X9_6 : ∀ x : Int, jfit (jty 9 (Int.toNat 6)) x := fun _ => trivial
theorem fl_X9_71 : jFL RX9 71 9 13 0 := ⟨RX9, TX9, 15, rfl, by decide, by decide, jinT2 (List.mem_of_getElem? (i := 101) rfl) rfl, rfl⟩
theorem ff_X9_13 : jFfin 9 13 false := ⟨RX9, TX9, 15, rfl, rfl, fun _ => rfl⟩
theorem fz_X9_13 : ∀ x : Int, jfit (jty 9 (Int.toNat 13)) x := fun _ => trivial
theorem cs_X9_74 : jCS RX9 74 iJ7_fill_53178 2 := ⟨jinT4 (List.mem_of_getElem? (i := 224) rfl) rfl, wtJ7_fill_53178, wcJ7_fill_53178, wnJ7, wpJ7_fill_53178, by decide⟩
theorem cv_X9_80 : jCV RX9 80 iX9_findUsableWays 0 := ⟨jinT4 (List.mem_of_getElem? (i := 225) rfl) rfl, wiX9_findUsableWays, wlX9_findUsableWays, wcX9_findUsableWays, wnX9, wpX9_findUsableWays, by decide⟩
theorem fl_X9_83 : jFL RX9 83 8 2 0 := ⟨RX8, TX8, 19, rfl, by decide, by decide, jinT1 (List.mem_of_getElem? (i := 231) rfl) rfl, rfl⟩
theorem cv_X9_86 : jCV RX9 86 iX1_isKnown 3 := ⟨jinT4 (List.mem_of_getElem? (i := 229) rfl) rfl, wiX1_isKnown, wlX1_isKnown, wcX1_isKnown, wnX1, wpX1_isKnown, by decide⟩
theorem fl_X9_90 : jFL RX9 90 1 3 2 := ⟨RX1, TX1, 9, rfl, by decide, by decide, jinT1 (List.mem_of_getElem? (i := 184) rfl) rfl, rfl⟩
theorem fl_X9_93 : jFL RX9 93 1 4 2 := ⟨RX1, TX1, 9, rfl, by decide, by decide, jinT1 (List.mem_of_getElem? (i := 188) rfl) rfl, rfl⟩
theorem fl_X9_96 : jFL RX9 96 1 2 2 := ⟨RX1, TX1, 9, rfl, by decide, by decide, jinT1 (List.mem_of_getElem? (i := 181) rfl) rfl, rfl⟩
theorem fl_X9_99 : jFL RX9 99 8 7 0 := ⟨RX8, TX8, 19, rfl, by decide, by decide, jinT2 (List.mem_of_getElem? (i := 3) rfl) rfl, rfl⟩
theorem fl_X9_102 : jFL RX9 102 8 1 0 := ⟨RX8, TX8, 19, rfl, by decide, by decide, jinT1 (List.mem_of_getElem? (i := 228) rfl) rfl, rfl⟩
theorem cv_X9_106 : jCV RX9 106 iX9_findSums 2 := ⟨jinT4 (List.mem_of_getElem? (i := 235) rfl) rfl, wiX9_findSums, wlX9_findSums, wcX9_findSums, wnX9, wpX9_findSums, by decide⟩
theorem fl_X9_110 : jFL RX9 110 8 6 2 := ⟨RX8, TX8, 19, rfl, by decide, by decide, jinT2 (List.mem_of_getElem? (i := 1) rfl) rfl, rfl⟩
theorem fl_X9_113 : jFL RX9 113 8 5 2 := ⟨RX8, TX8, 19, rfl, by decide, by decide, jinT1 (List.mem_of_getElem? (i := 239) rfl) rfl, rfl⟩
theorem fl_X9_116 : jFL RX9 116 8 3 2 := ⟨RX8, TX8, 19, rfl, by decide, by decide, jinT1 (List.mem_of_getElem? (i := 235) rfl) rfl, rfl⟩
theorem fl_X9_119 : jFL RX9 119 8 4 2 := ⟨RX8, TX8, 19, rfl, by decide, by decide, jinT1 (List.mem_of_getElem? (i := 237) rfl) rfl, rfl⟩
theorem cv_X9_122 : jCV RX9 122 iX9_sumOf 3 := ⟨jinT5 (List.mem_of_getElem? (i := 8) rfl) rfl, wiX9_sumOf, wlX9_sumOf, wcX9_sumOf, wnX9, wpX9_sumOf, by decide⟩
theorem cv_X9_126 : jCV RX9 126 iX9_nextPlace 3 := ⟨jinT5 (List.mem_of_getElem? (i := 9) rfl) rfl, wiX9_nextPlace, wlX9_nextPlace, wcX9_nextPlace, wnX9, wpX9_nextPlace, by decide⟩
theorem cv_X9_129 : jCV RX9 129 iX9_otherEnd 2 := ⟨jinT5 (List.mem_of_getElem? (i := 13) rfl) rfl, wiX9_otherEnd, wlX9_otherEnd, wcX9_otherEnd, wnX9, wpX9_otherEnd, by decide⟩
theorem cv_X9_133 : jCV RX9 133 iX9_judge 1 := ⟨jinT5 (List.mem_of_getElem? (i := 56) rfl) rfl, wiX9_judge, wlX9_judge, wcX9_judge, wnX9, wpX9_judge, by decide⟩
theorem fl_X9_137 : jFL RX9 137 1 6 2 := ⟨RX1, TX1, 9, rfl, by decide, by decide, jinT1 (List.mem_of_getElem? (i := 196) rfl) rfl, rfl⟩
theorem cv_X9_140 : jCV RX9 140 iX1_homeOf 3 := ⟨jinT5 (List.mem_of_getElem? (i := 25) rfl) rfl, wiX1_homeOf, wlX1_homeOf, wcX1_homeOf, wnX1, wpX1_homeOf, by decide⟩
theorem fl_X9_143 : jFL RX9 143 8 8 0 := ⟨RX8, TX8, 19, rfl, by decide, by decide, jinT2 (List.mem_of_getElem? (i := 7) rfl) rfl, rfl⟩
theorem fl_X9_146 : jFL RX9 146 8 9 2 := ⟨RX8, TX8, 19, rfl, by decide, by decide, jinT2 (List.mem_of_getElem? (i := 12) rfl) rfl, rfl⟩
theorem fl_X9_149 : jFL RX9 149 1 5 2 := ⟨RX1, TX1, 9, rfl, by decide, by decide, jinT1 (List.mem_of_getElem? (i := 192) rfl) rfl, rfl⟩
theorem cs_X9_152 : jCS RX9 152 iX9_orNotReached 1 := ⟨jinT5 (List.mem_of_getElem? (i := 26) rfl) rfl, wtX9_orNotReached, wcX9_orNotReached, wnX9, wpX9_orNotReached, by decide⟩
theorem cv_X9_155 : jCV RX9 155 iX8_firstRight 1 := ⟨jinT5 (List.mem_of_getElem? (i := 29) rfl) rfl, wiX8_firstRight, wlX8_firstRight, wcX8_firstRight, wnX8, wpX8_firstRight, by decide⟩
theorem cv_X9_159 : jCV RX9 159 iX9_nearestStop 1 := ⟨jinT5 (List.mem_of_getElem? (i := 40) rfl) rfl, wiX9_nearestStop, wlX9_nearestStop, wcX9_nearestStop, wnX9, wpX9_nearestStop, by decide⟩
theorem fl_X9_162 : jFL RX9 162 8 17 2 := ⟨RX8, TX8, 19, rfl, by decide, by decide, jinT2 (List.mem_of_getElem? (i := 34) rfl) rfl, rfl⟩
theorem fl_X9_165 : jFL RX9 165 8 11 0 := ⟨RX8, TX8, 19, rfl, by decide, by decide, jinT2 (List.mem_of_getElem? (i := 18) rfl) rfl, rfl⟩
theorem fl_X9_168 : jFL RX9 168 8 12 2 := ⟨RX8, TX8, 19, rfl, by decide, by decide, jinT2 (List.mem_of_getElem? (i := 23) rfl) rfl, rfl⟩
theorem ci_X10_9 : jCI RX10 9 iX4_init 0 ∨ ∃ host, jCN RX10 host 9 iX4_init 0 := Or.inr ⟨"SchoolRides", jinN1 (List.mem_of_getElem? (i := 31) rfl) rfl, rfl, rfl, wiX4_init, wcX4_init, wnX4, wpX4_init, by decide⟩
theorem fl_X10_10 : jFL RX10 10 10 0 2 := ⟨RX10, TX10, 14, rfl, by decide, by decide, jinT3 (List.mem_of_getElem? (i := 127) rfl) rfl, rfl⟩
theorem ff_X10_0 : jFfin 10 0 true := ⟨RX10, TX10, 14, rfl, rfl, fun _ => rfl⟩
theorem fz_X10_0 : ∀ x : Int, jfit (jty 10 (Int.toNat 0)) x := fun _ => trivial
theorem fl_X10_16 : jFL RX10 16 4 2 2 := ⟨RX4, TX4, 15, rfl, by decide, by decide, jinT1 (List.mem_of_getElem? (i := 118) rfl) rfl, rfl⟩
theorem fl_X10_20 : jFL RX10 20 10 1 2 := ⟨RX10, TX10, 14, rfl, by decide, by decide, jinT3 (List.mem_of_getElem? (i := 128) rfl) rfl, rfl⟩
theorem ff_X10_1 : jFfin 10 1 true := ⟨RX10, TX10, 14, rfl, rfl, fun _ => rfl⟩
theorem fz_X10_1 : ∀ x : Int, jfit (jty 10 (Int.toNat 1)) x := fun _ => trivial
theorem ci_X10_23 : jCI RX10 23 iX9_init 0 ∨ ∃ host, jCN RX10 host 23 iX9_init 0 := Or.inl ⟨jinT1 (List.mem_of_getElem? (i := 164) rfl) rfl, rfl, rfl, wiX9_init, wcX9_init, wnX9, wpX9_init, by decide⟩
theorem fl_X10_24 : jFL RX10 24 10 2 2 := ⟨RX10, TX10, 14, rfl, by decide, by decide, jinT3 (List.mem_of_getElem? (i := 129) rfl) rfl, rfl⟩
theorem ff_X10_2 : jFfin 10 2 true := ⟨RX10, TX10, 14, rfl, rfl, fun _ => rfl⟩
theorem fz_X10_2 : ∀ x : Int, jfit (jty 10 (Int.toNat 2)) x := fun _ => trivial
theorem fl_X10_28 : jFL RX10 28 9 0 2 := ⟨RX9, TX9, 15, rfl, by decide, by decide, jinT2 (List.mem_of_getElem? (i := 76) rfl) rfl, rfl⟩
theorem fl_X10_32 : jFL RX10 32 10 3 2 := ⟨RX10, TX10, 14, rfl, by decide, by decide, jinT3 (List.mem_of_getElem? (i := 130) rfl) rfl, rfl⟩
theorem ff_X10_3 : jFfin 10 3 true := ⟨RX10, TX10, 14, rfl, rfl, fun _ => rfl⟩
theorem fz_X10_3 : ∀ x : Int, jfit (jty 10 (Int.toNat 3)) x := fun _ => trivial
theorem fl_X10_33 : jFL RX10 33 9 1 2 := ⟨RX9, TX9, 15, rfl, by decide, by decide, jinT2 (List.mem_of_getElem? (i := 78) rfl) rfl, rfl⟩
theorem fl_X10_37 : jFL RX10 37 10 4 2 := ⟨RX10, TX10, 14, rfl, by decide, by decide, jinT3 (List.mem_of_getElem? (i := 131) rfl) rfl, rfl⟩
theorem ff_X10_4 : jFfin 10 4 true := ⟨RX10, TX10, 14, rfl, rfl, fun _ => rfl⟩
theorem fz_X10_4 : ∀ x : Int, jfit (jty 10 (Int.toNat 4)) x := fun _ => trivial
theorem fl_X10_40 : jFL RX10 40 10 5 2 := ⟨RX10, TX10, 14, rfl, by decide, by decide, jinT3 (List.mem_of_getElem? (i := 132) rfl) rfl, rfl⟩
theorem ff_X10_5 : jFfin 10 5 true := ⟨RX10, TX10, 14, rfl, rfl, fun _ => rfl⟩
theorem fz_X10_5 : ∀ x : Int, jfit (jty 10 (Int.toNat 5)) x := fun _ => trivial
theorem ci_X10_44 : jCI RX10 44 iX3_init 0 ∨ ∃ host, jCN RX10 host 44 iX3_init 0 := Or.inr ⟨"SchoolRides", jinN2 (List.mem_of_getElem? (i := 137) rfl) rfl, rfl, rfl, wiX3_init, wcX3_init, wnX3, wpX3_init, by decide⟩
theorem ci_X10_47 : jCI RX10 47 iX2_init 0 ∨ ∃ host, jCN RX10 host 47 iX2_init 0 := Or.inr ⟨"SchoolRides", jinN2 (List.mem_of_getElem? (i := 209) rfl) rfl, rfl, rfl, wiX2_init, wcX2_init, wnX2, wpX2_init, by decide⟩
theorem fl_X10_48 : jFL RX10 48 10 6 2 := ⟨RX10, TX10, 14, rfl, by decide, by decide, jinT3 (List.mem_of_getElem? (i := 133) rfl) rfl, rfl⟩
theorem ff_X10_6 : jFfin 10 6 true := ⟨RX10, TX10, 14, rfl, rfl, fun _ => rfl⟩
theorem fz_X10_6 : ∀ x : Int, jfit (jty 10 (Int.toNat 6)) x := fun _ => trivial
theorem ci_X10_54 : jCI RX10 54 iX7_init 0 ∨ ∃ host, jCN RX10 host 54 iX7_init 0 := Or.inr ⟨"SchoolRides", jinN3 (List.mem_of_getElem? (i := 33) rfl) rfl, rfl, rfl, wiX7_init, wcX7_init, wnX7, wpX7_init, by decide⟩
theorem fl_X10_55 : jFL RX10 55 10 7 2 := ⟨RX10, TX10, 14, rfl, by decide, by decide, jinT3 (List.mem_of_getElem? (i := 134) rfl) rfl, rfl⟩
theorem ff_X10_7 : jFfin 10 7 true := ⟨RX10, TX10, 14, rfl, rfl, fun _ => rfl⟩
theorem fz_X10_7 : ∀ x : Int, jfit (jty 10 (Int.toNat 7)) x := fun _ => trivial
theorem ci_X10_61 : jCI RX10 61 iX0_init 0 ∨ ∃ host, jCN RX10 host 61 iX0_init 0 := Or.inl ⟨jinT3 (List.mem_of_getElem? (i := 69) rfl) rfl, rfl, rfl, wiX0_init, wcX0_init, wnX0, wpX0_init, by decide⟩
theorem fl_X10_62 : jFL RX10 62 10 8 2 := ⟨RX10, TX10, 14, rfl, by decide, by decide, jinT3 (List.mem_of_getElem? (i := 135) rfl) rfl, rfl⟩
theorem ff_X10_8 : jFfin 10 8 true := ⟨RX10, TX10, 14, rfl, rfl, fun _ => rfl⟩
theorem fz_X10_8 : ∀ x : Int, jfit (jty 10 (Int.toNat 8)) x := fun _ => trivial
theorem ci_X10_68 : jCI RX10 68 iX5_init 0 ∨ ∃ host, jCN RX10 host 68 iX5_init 0 := Or.inr ⟨"SchoolRides", jinN3 (List.mem_of_getElem? (i := 102) rfl) rfl, rfl, rfl, wiX5_init, wcX5_init, wnX5, wpX5_init, by decide⟩
theorem fl_X10_69 : jFL RX10 69 10 9 2 := ⟨RX10, TX10, 14, rfl, by decide, by decide, jinT3 (List.mem_of_getElem? (i := 136) rfl) rfl, rfl⟩
theorem ff_X10_9 : jFfin 10 9 true := ⟨RX10, TX10, 14, rfl, rfl, fun _ => rfl⟩
theorem fz_X10_9 : ∀ x : Int, jfit (jty 10 (Int.toNat 9)) x := fun _ => trivial
theorem fl_X10_73 : jFL RX10 73 10 11 0 := ⟨RX10, TX10, 14, rfl, by decide, by decide, jinT3 (List.mem_of_getElem? (i := 138) rfl) rfl, rfl⟩
theorem ff_X10_11 : jFfin 10 11 false := ⟨RX10, TX10, 14, rfl, rfl, fun _ => rfl⟩
theorem fz_X10_11 : ∀ x : Int, jfit (jty 10 (Int.toNat 11)) x := fun _ => trivial
theorem fl_X10_77 : jFL RX10 77 6 1 0 := ⟨RX6, TX6, 6, rfl, by decide, by decide, jinT1 (List.mem_of_getElem? (i := 88) rfl) rfl, rfl⟩
theorem cv_X10_82 : jCV RX10 82 iX6_append 1 := ⟨jinT3 (List.mem_of_getElem? (i := 174) rfl) rfl, wiX6_append, wlX6_append, wcX6_append, wnX6, wpX6_append, by decide⟩
theorem cs_X10_86 : jCS RX10 86 iX10_isDay 1 := ⟨jinT3 (List.mem_of_getElem? (i := 186) rfl) rfl, wtX10_isDay, wcX10_isDay, wnX10, wpX10_isDay, by decide⟩
theorem fl_X10_90 : jFL RX10 90 10 10 0 := ⟨RX10, TX10, 14, rfl, by decide, by decide, jinT3 (List.mem_of_getElem? (i := 137) rfl) rfl, rfl⟩
theorem cv_X10_93 : jCV RX10 93 iX4_readTape 1 := ⟨jinT3 (List.mem_of_getElem? (i := 192) rfl) rfl, wiX4_readTape, wlX4_readTape, wcX4_readTape, wnX4, wpX4_readTape, by decide⟩
theorem fl_X10_97 : jFL RX10 97 4 0 0 := ⟨RX4, TX4, 15, rfl, by decide, by decide, jinT1 (List.mem_of_getElem? (i := 114) rfl) rfl, rfl⟩
theorem fl_X10_100 : jFL RX10 100 4 1 0 := ⟨RX4, TX4, 15, rfl, by decide, by decide, jinT1 (List.mem_of_getElem? (i := 116) rfl) rfl, rfl⟩
theorem fl_X10_101 : jFL RX10 101 8 0 0 := ⟨RX8, TX8, 19, rfl, by decide, by decide, jinT1 (List.mem_of_getElem? (i := 225) rfl) rfl, rfl⟩
theorem ff_X8_0 : jFfin 8 0 false := ⟨RX8, TX8, 19, rfl, rfl, fun _ => rfl⟩
theorem fz_X8_0 : ∀ x : Int, jfit (jty 8 (Int.toNat 0)) x := fun _ => trivial
theorem ff_X10_10 : jFfin 10 10 false := ⟨RX10, TX10, 14, rfl, rfl, fun _ => rfl⟩
theorem fz_X10_10 : ∀ x : Int, jfit (jty 10 (Int.toNat 10)) x := fun _ => trivial
theorem cs_X10_106 : jCS RX10 106 iX10_within 2 := ⟨jinT3 (List.mem_of_getElem? (i := 189) rfl) rfl, wtX10_within, wcX10_within, wnX10, wpX10_within, by decide⟩
theorem cv_X10_110 : jCV RX10 110 iX1_addChild 4 := ⟨jinT4 (List.mem_of_getElem? (i := 135) rfl) rfl, wiX1_addChild, wlX1_addChild, wcX1_addChild, wnX1, wpX1_addChild, by decide⟩
theorem fl_X10_116 : jFL RX10 116 1 1 0 := ⟨RX1, TX1, 9, rfl, by decide, by decide, jinT1 (List.mem_of_getElem? (i := 179) rfl) rfl, rfl⟩
theorem cv_X10_119 : jCV RX10 119 iX1_add 5 := ⟨jinT4 (List.mem_of_getElem? (i := 147) rfl) rfl, wiX1_add, wlX1_add, wcX1_add, wnX1, wpX1_add, by decide⟩
theorem fl_X10_123 : jFL RX10 123 1 0 0 := ⟨RX1, TX1, 9, rfl, by decide, by decide, jinT1 (List.mem_of_getElem? (i := 177) rfl) rfl, rfl⟩
theorem cv_X10_126 : jCV RX10 126 iX1_addVoid 1 := ⟨jinT4 (List.mem_of_getElem? (i := 164) rfl) rfl, wiX1_addVoid, wlX1_addVoid, wcX1_addVoid, wnX1, wpX1_addVoid, by decide⟩
theorem cv_X10_130 : jCV RX10 130 iX10_inForce 1 := ⟨jinT4 (List.mem_of_getElem? (i := 175) rfl) rfl, wiX10_inForce, wlX10_inForce, wcX10_inForce, wnX10, wpX10_inForce, by decide⟩
theorem cv_X10_133 : jCV RX10 133 iX10_knowsChild 2 := ⟨jinT4 (List.mem_of_getElem? (i := 183) rfl) rfl, wiX10_knowsChild, wlX10_knowsChild, wcX10_knowsChild, wnX10, wpX10_knowsChild, by decide⟩
theorem cv_X10_136 : jCV RX10 136 iX1_homeOf 3 := ⟨jinT4 (List.mem_of_getElem? (i := 195) rfl) rfl, wiX1_homeOf, wlX1_homeOf, wcX1_homeOf, wnX1, wpX1_homeOf, by decide⟩
theorem cs_X10_140 : jCS RX10 140 iX10_canMeasure 3 := ⟨jinT4 (List.mem_of_getElem? (i := 211) rfl) rfl, wtX10_canMeasure, wcX10_canMeasure, wnX10, wpX10_canMeasure, by decide⟩
theorem cv_X10_144 : jCV RX10 144 iX10_look 2 := ⟨jinT4 (List.mem_of_getElem? (i := 214) rfl) rfl, wiX10_look, wlX10_look, wcX10_look, wnX10, wpX10_look, by decide⟩
theorem cv_X10_147 : jCV RX10 147 iX9_sumOf 3 := ⟨jinT4 (List.mem_of_getElem? (i := 230) rfl) rfl, wiX9_sumOf, wlX9_sumOf, wcX9_sumOf, wnX9, wpX9_sumOf, by decide⟩
theorem cv_X10_151 : jCV RX10 151 iX9_placeInRow 4 := ⟨jinT5 (List.mem_of_getElem? (i := 4) rfl) rfl, wiX9_placeInRow, wlX9_placeInRow, wcX9_placeInRow, wnX9, wpX9_placeInRow, by decide⟩
theorem cv_X10_154 : jCV RX10 154 iX9_judge 1 := ⟨jinT5 (List.mem_of_getElem? (i := 21) rfl) rfl, wiX9_judge, wlX9_judge, wcX9_judge, wnX9, wpX9_judge, by decide⟩
theorem fl_X10_157 : jFL RX10 157 9 7 2 := ⟨RX9, TX9, 15, rfl, by decide, by decide, jinT2 (List.mem_of_getElem? (i := 93) rfl) rfl, rfl⟩
theorem cv_X10_161 : jCV RX10 161 iX10_rightHolders 0 := ⟨jinT5 (List.mem_of_getElem? (i := 48) rfl) rfl, wiX10_rightHolders, wlX10_rightHolders, wcX10_rightHolders, wnX10, wpX10_rightHolders, by decide⟩
theorem cs_X10_165 : jCS RX10 165 iJ6_bitCount_0f7a4 1 := ⟨jinT5 (List.mem_of_getElem? (i := 57) rfl) rfl, wtJ6_bitCount_0f7a4, wcJ6_bitCount_0f7a4, wnJ6, wpJ6_bitCount_0f7a4, by decide⟩
theorem fl_X10_170 : jFL RX10 170 9 8 2 := ⟨RX9, TX9, 15, rfl, by decide, by decide, jinT2 (List.mem_of_getElem? (i := 96) rfl) rfl, rfl⟩
theorem cv_X10_173 : jCV RX10 173 iX10_canPlan 3 := ⟨jinT5 (List.mem_of_getElem? (i := 71) rfl) rfl, wiX10_canPlan, wlX10_canPlan, wcX10_canPlan, wnX10, wpX10_canPlan, by decide⟩
theorem fl_X10_176 : jFL RX10 176 9 2 2 := ⟨RX9, TX9, 15, rfl, by decide, by decide, jinT2 (List.mem_of_getElem? (i := 82) rfl) rfl, rfl⟩
theorem fl_X10_180 : jFL RX10 180 8 11 0 := ⟨RX8, TX8, 19, rfl, by decide, by decide, jinT2 (List.mem_of_getElem? (i := 19) rfl) rfl, rfl⟩
theorem fl_X10_183 : jFL RX10 183 3 1 2 := ⟨RX3, TX3, 18, rfl, by decide, by decide, jinT2 (List.mem_of_getElem? (i := 144) rfl) rfl, rfl⟩
theorem cv_X10_186 : jCV RX10 186 iX10_isStopSet 1 := ⟨jinT5 (List.mem_of_getElem? (i := 145) rfl) rfl, wiX10_isStopSet, wlX10_isStopSet, wcX10_isStopSet, wnX10, wpX10_isStopSet, by decide⟩
theorem fl_X10_189 : jFL RX10 189 3 2 2 := ⟨RX3, TX3, 18, rfl, by decide, by decide, jinT2 (List.mem_of_getElem? (i := 147) rfl) rfl, rfl⟩
theorem cv_X10_192 : jCV RX10 192 iX3_stopInRoute 2 := ⟨jinT5 (List.mem_of_getElem? (i := 153) rfl) rfl, wiX3_stopInRoute, wlX3_stopInRoute, wcX3_stopInRoute, wnX3, wpX3_stopInRoute, by decide⟩
theorem fl_X10_196 : jFL RX10 196 3 3 2 := ⟨RX3, TX3, 18, rfl, by decide, by decide, jinT2 (List.mem_of_getElem? (i := 149) rfl) rfl, rfl⟩
theorem cv_X10_200 : jCV RX10 200 iX3_hasPlan 0 := ⟨jinT5 (List.mem_of_getElem? (i := 170) rfl) rfl, wiX3_hasPlan, wlX3_hasPlan, wcX3_hasPlan, wnX3, wpX3_hasPlan, by decide⟩
theorem cv_X10_204 : jCV RX10 204 iX3_leastPay 0 := ⟨jinT5 (List.mem_of_getElem? (i := 171) rfl) rfl, wiX3_leastPay, wlX3_leastPay, wcX3_leastPay, wnX3, wpX3_leastPay, by decide⟩
theorem fl_X10_207 : jFL RX10 207 3 4 0 := ⟨RX3, TX3, 18, rfl, by decide, by decide, jinT2 (List.mem_of_getElem? (i := 152) rfl) rfl, rfl⟩
theorem fl_X10_210 : jFL RX10 210 3 5 2 := ⟨RX3, TX3, 18, rfl, by decide, by decide, jinT2 (List.mem_of_getElem? (i := 155) rfl) rfl, rfl⟩
theorem fl_X10_213 : jFL RX10 213 3 6 0 := ⟨RX3, TX3, 18, rfl, by decide, by decide, jinT2 (List.mem_of_getElem? (i := 157) rfl) rfl, rfl⟩
theorem cv_X10_216 : jCV RX10 216 iX3_fewestRoutes 0 := ⟨jinT5 (List.mem_of_getElem? (i := 191) rfl) rfl, wiX3_fewestRoutes, wlX3_fewestRoutes, wcX3_fewestRoutes, wnX3, wpX3_fewestRoutes, by decide⟩
theorem cv_X10_219 : jCV RX10 219 iX10_gatherFleet 0 := ⟨jinT5 (List.mem_of_getElem? (i := 199) rfl) rfl, wiX10_gatherFleet, wlX10_gatherFleet, wcX10_gatherFleet, wnX10, wpX10_gatherFleet, by decide⟩
theorem cv_X10_222 : jCV RX10 222 iX2_busesUnshifted 0 := ⟨jinT5 (List.mem_of_getElem? (i := 224) rfl) rfl, wiX2_busesUnshifted, wlX2_busesUnshifted, wcX2_busesUnshifted, wnX2, wpX2_busesUnshifted, by decide⟩
theorem cv_X10_225 : jCV RX10 225 iX2_findShifts 0 := ⟨jinT6 (List.mem_of_getElem? (i := 9) rfl) rfl, wiX2_findShifts, wlX2_findShifts, wcX2_findShifts, wnX2, wpX2_findShifts, by decide⟩
theorem fl_X10_228 : jFL RX10 228 2 1 0 := ⟨RX2, TX2, 18, rfl, by decide, by decide, jinT2 (List.mem_of_getElem? (i := 216) rfl) rfl, rfl⟩
theorem fl_X10_231 : jFL RX10 231 8 8 0 := ⟨RX8, TX8, 19, rfl, by decide, by decide, jinT2 (List.mem_of_getElem? (i := 8) rfl) rfl, rfl⟩
theorem fl_X10_234 : jFL RX10 234 2 2 2 := ⟨RX2, TX2, 18, rfl, by decide, by decide, jinT2 (List.mem_of_getElem? (i := 218) rfl) rfl, rfl⟩
theorem cv_X10_237 : jCV RX10 237 iX7_add 3 := ⟨jinT6 (List.mem_of_getElem? (i := 36) rfl) rfl, wiX7_add, wlX7_add, wcX7_add, wnX7, wpX7_add, by decide⟩
theorem cs_X10_239 : jCS RX10 239 iX10_isRouteCount 1 := ⟨jinT6 (List.mem_of_getElem? (i := 44) rfl) rfl, wtX10_isRouteCount, wcX10_isRouteCount, wnX10, wpX10_isRouteCount, by decide⟩
theorem cs_X10_242 : jCS RX10 242 iX10_isFirmOrNone 1 := ⟨jinT6 (List.mem_of_getElem? (i := 47) rfl) rfl, wtX10_isFirmOrNone, wcX10_isFirmOrNone, wnX10, wpX10_isFirmOrNone, by decide⟩
theorem cv_X10_245 : jCV RX10 245 iX7_solve 2 := ⟨jinT6 (List.mem_of_getElem? (i := 50) rfl) rfl, wiX7_solve, wlX7_solve, wcX7_solve, wnX7, wpX7_solve, by decide⟩
theorem fl_X10_249 : jFL RX10 249 7 1 2 := ⟨RX7, TX7, 9, rfl, by decide, by decide, jinT3 (List.mem_of_getElem? (i := 40) rfl) rfl, rfl⟩
theorem cv_X10_252 : jCV RX10 252 iX7_bidOn 2 := ⟨jinT6 (List.mem_of_getElem? (i := 71) rfl) rfl, wiX7_bidOn, wlX7_bidOn, wcX7_bidOn, wnX7, wpX7_bidOn, by decide⟩
theorem cv_X10_255 : jCV RX10 255 iX0_add 1 := ⟨jinT6 (List.mem_of_getElem? (i := 79) rfl) rfl, wiX0_add, wlX0_add, wcX0_add, wnX0, wpX0_add, by decide⟩
theorem fl_X10_257 : jFL RX10 257 0 0 0 := ⟨RX0, TX0, 7, rfl, by decide, by decide, jinT3 (List.mem_of_getElem? (i := 77) rfl) rfl, rfl⟩
theorem cv_X10_258 : jCV RX10 258 iX0_setAway 2 := ⟨jinT6 (List.mem_of_getElem? (i := 87) rfl) rfl, wiX0_setAway, wlX0_setAway, wcX0_setAway, wnX0, wpX0_setAway, by decide⟩
theorem cv_X10_262 : jCV RX10 262 iX0_setWeight 2 := ⟨jinT6 (List.mem_of_getElem? (i := 95) rfl) rfl, wiX0_setWeight, wlX0_setWeight, wcX0_setWeight, wnX0, wpX0_setWeight, by decide⟩
theorem cv_X10_265 : jCV RX10 265 iX0_solve 1 := ⟨jinT6 (List.mem_of_getElem? (i := 103) rfl) rfl, wiX0_solve, wlX0_solve, wcX0_solve, wnX0, wpX0_solve, by decide⟩
theorem cv_X10_267 : jCV RX10 267 iX0_leastLeft 0 := ⟨jinT6 (List.mem_of_getElem? (i := 125) rfl) rfl, wiX0_leastLeft, wlX0_leastLeft, wcX0_leastLeft, wnX0, wpX0_leastLeft, by decide⟩
theorem fl_X10_270 : jFL RX10 270 0 1 2 := ⟨RX0, TX0, 7, rfl, by decide, by decide, jinT3 (List.mem_of_getElem? (i := 79) rfl) rfl, rfl⟩
theorem cv_X10_273 : jCV RX10 273 iX5_add 3 := ⟨jinT6 (List.mem_of_getElem? (i := 137) rfl) rfl, wiX5_add, wlX5_add, wcX5_add, wnX5, wpX5_add, by decide⟩
theorem cv_X10_274 : jCV RX10 274 iX5_spread 1 := ⟨jinT6 (List.mem_of_getElem? (i := 145) rfl) rfl, wiX5_spread, wlX5_spread, wcX5_spread, wnX5, wpX5_spread, by decide⟩
theorem fl_X10_277 : jFL RX10 277 5 1 2 := ⟨RX5, TX5, 6, rfl, by decide, by decide, jinT3 (List.mem_of_getElem? (i := 109) rfl) rfl, rfl⟩
theorem cv_X10_280 : jCV RX10 280 iX5_bestFirst 0 := ⟨jinT6 (List.mem_of_getElem? (i := 155) rfl) rfl, wiX5_bestFirst, wlX5_bestFirst, wcX5_bestFirst, wnX5, wpX5_bestFirst, by decide⟩
theorem cv_X10_283 : jCV RX10 283 iX10_isKnowledge 1 := ⟨jinT4 (List.mem_of_getElem? (i := 187) rfl) rfl, wiX10_isKnowledge, wlX10_isKnowledge, wcX10_isKnowledge, wnX10, wpX10_isKnowledge, by decide⟩
theorem cv_X10_286 : jCV RX10 286 iX10_findLent 2 := ⟨jinT6 (List.mem_of_getElem? (i := 167) rfl) rfl, wiX10_findLent, wlX10_findLent, wcX10_findLent, wnX10, wpX10_findLent, by decide⟩
theorem fl_X10_289 : jFL RX10 289 10 13 0 := ⟨RX10, TX10, 14, rfl, by decide, by decide, jinT3 (List.mem_of_getElem? (i := 140) rfl) rfl, rfl⟩
theorem fl_X10_292 : jFL RX10 292 10 12 0 := ⟨RX10, TX10, 14, rfl, by decide, by decide, jinT3 (List.mem_of_getElem? (i := 139) rfl) rfl, rfl⟩
theorem fl_X10_295 : jFL RX10 295 7 0 0 := ⟨RX7, TX7, 9, rfl, by decide, by decide, jinT3 (List.mem_of_getElem? (i := 38) rfl) rfl, rfl⟩
theorem fl_X10_296 : jFL RX10 296 5 0 0 := ⟨RX5, TX5, 6, rfl, by decide, by decide, jinT3 (List.mem_of_getElem? (i := 107) rfl) rfl, rfl⟩
theorem cv_X10_297 : jCV RX10 297 iX10_countInText 2 := ⟨jinT6 (List.mem_of_getElem? (i := 189) rfl) rfl, wiX10_countInText, wlX10_countInText, wcX10_countInText, wnX10, wpX10_countInText, by decide⟩
theorem cv_X10_300 : jCV RX10 300 iX1_childrenKnown 1 := ⟨jinT4 (List.mem_of_getElem? (i := 191) rfl) rfl, wiX1_childrenKnown, wlX1_childrenKnown, wcX1_childrenKnown, wnX1, wpX1_childrenKnown, by decide⟩
theorem fl_X10_303 : jFL RX10 303 8 1 0 := ⟨RX8, TX8, 19, rfl, by decide, by decide, jinT1 (List.mem_of_getElem? (i := 229) rfl) rfl, rfl⟩
theorem fl_X10_306 : jFL RX10 306 8 2 0 := ⟨RX8, TX8, 19, rfl, by decide, by decide, jinT1 (List.mem_of_getElem? (i := 233) rfl) rfl, rfl⟩
theorem fl_X10_309 : jFL RX10 309 8 13 0 := ⟨RX8, TX8, 19, rfl, by decide, by decide, jinT2 (List.mem_of_getElem? (i := 27) rfl) rfl, rfl⟩
theorem cv_X10_312 : jCV RX10 312 iX9_turn 3 := ⟨jinT4 (List.mem_of_getElem? (i := 218) rfl) rfl, wiX9_turn, wlX9_turn, wcX9_turn, wnX9, wpX9_turn, by decide⟩
theorem cv_X10_316 : jCV RX10 316 iX9_judgeAll 0 := ⟨jinT5 (List.mem_of_getElem? (i := 52) rfl) rfl, wiX9_judgeAll, wlX9_judgeAll, wcX9_judgeAll, wnX9, wpX9_judgeAll, by decide⟩
theorem fl_X10_319 : jFL RX10 319 9 6 0 := ⟨RX9, TX9, 15, rfl, by decide, by decide, jinT2 (List.mem_of_getElem? (i := 91) rfl) rfl, rfl⟩
theorem cv_X10_321 : jCV RX10 321 iX10_preparePlan 1 := ⟨jinT5 (List.mem_of_getElem? (i := 75) rfl) rfl, wiX10_preparePlan, wlX10_preparePlan, wcX10_preparePlan, wnX10, wpX10_preparePlan, by decide⟩
theorem fl_X10_324 : jFL RX10 324 3 0 0 := ⟨RX3, TX3, 18, rfl, by decide, by decide, jinT2 (List.mem_of_getElem? (i := 142) rfl) rfl, rfl⟩
theorem fl_X10_327 : jFL RX10 327 9 5 0 := ⟨RX9, TX9, 15, rfl, by decide, by decide, jinT2 (List.mem_of_getElem? (i := 88) rfl) rfl, rfl⟩
theorem cv_X10_328 : jCV RX10 328 iX3_make 2 := ⟨jinT5 (List.mem_of_getElem? (i := 79) rfl) rfl, wiX3_make, wlX3_make, wcX3_make, wnX3, wpX3_make, by decide⟩
theorem fl_X10_332 : jFL RX10 332 2 0 0 := ⟨RX2, TX2, 18, rfl, by decide, by decide, jinT2 (List.mem_of_getElem? (i := 214) rfl) rfl, rfl⟩
theorem cv_X10_333 : jCV RX10 333 iX2_clear 2 := ⟨jinT5 (List.mem_of_getElem? (i := 203) rfl) rfl, wiX2_clear, wlX2_clear, wcX2_clear, wnX2, wpX2_clear, by decide⟩
theorem cv_X10_337 : jCV RX10 337 iX2_addRoutes 3 := ⟨jinT5 (List.mem_of_getElem? (i := 208) rfl) rfl, wiX2_addRoutes, wlX2_addRoutes, wcX2_addRoutes, wnX2, wpX2_addRoutes, by decide⟩
theorem cv_X10_341 : jCV RX10 341 iX2_measure 1 := ⟨jinT5 (List.mem_of_getElem? (i := 213) rfl) rfl, wiX2_measure, wlX2_measure, wcX2_measure, wnX2, wpX2_measure, by decide⟩
theorem cv_X10_345 : jCV RX10 345 iX1_isKnown 3 := ⟨jinT6 (List.mem_of_getElem? (i := 171) rfl) rfl, wiX1_isKnown, wlX1_isKnown, wcX1_isKnown, wnX1, wpX1_isKnown, by decide⟩
theorem cv_X10_348 : jCV RX10 348 iX1_areAlikeTaps 3 := ⟨jinT6 (List.mem_of_getElem? (i := 172) rfl) rfl, wiX1_areAlikeTaps, wlX1_areAlikeTaps, wcX1_areAlikeTaps, wnX1, wpX1_areAlikeTaps, by decide⟩
theorem fl_X10_351 : jFL RX10 351 1 4 2 := ⟨RX1, TX1, 9, rfl, by decide, by decide, jinT1 (List.mem_of_getElem? (i := 189) rfl) rfl, rfl⟩
theorem cv_X10_354 : jCV RX10 354 iX10_isLent 2 := ⟨jinT6 (List.mem_of_getElem? (i := 176) rfl) rfl, wiX10_isLent, wlX10_isLent, wcX10_isLent, wnX10, wpX10_isLent, by decide⟩
theorem ff_X10_12 : jFfin 10 12 false := ⟨RX10, TX10, 14, rfl, rfl, fun _ => rfl⟩
theorem fz_X10_12 : ∀ x : Int, jfit (jty 10 (Int.toNat 12)) x := fun _ => trivial
theorem ff_X10_13 : jFfin 10 13 false := ⟨RX10, TX10, 14, rfl, rfl, fun _ => rfl⟩
theorem fz_X10_13 : ∀ x : Int, jfit (jty 10 (Int.toNat 13)) x := fun _ => trivial
theorem fl_X10_357 : jFL RX10 357 1 3 2 := ⟨RX1, TX1, 9, rfl, by decide, by decide, jinT1 (List.mem_of_getElem? (i := 186) rfl) rfl, rfl⟩
theorem fl_X10_360 : jFL RX10 360 1 5 2 := ⟨RX1, TX1, 9, rfl, by decide, by decide, jinT1 (List.mem_of_getElem? (i := 193) rfl) rfl, rfl⟩
theorem fl_X10_368 : jFL RX10 368 8 12 2 := ⟨RX8, TX8, 19, rfl, by decide, by decide, jinT2 (List.mem_of_getElem? (i := 24) rfl) rfl, rfl⟩
theorem fl_X11_7 : jFL RX11 7 11 1 2 := ⟨RX11, TX11, 105, rfl, by decide, by decide, jinT6 (List.mem_of_getElem? (i := 200) rfl) rfl, rfl⟩
theorem ff_X11_1 : jFfin 11 1 true := ⟨RX11, TX11, 105, rfl, rfl, fun _ => rfl⟩
theorem fz_X11_1 : ∀ x : Int, jfit (jty 11 (Int.toNat 1)) x := fun _ => trivial
theorem fl_X11_13 : jFL RX11 13 11 3 2 := ⟨RX11, TX11, 105, rfl, by decide, by decide, jinT6 (List.mem_of_getElem? (i := 202) rfl) rfl, rfl⟩
theorem ff_X11_3 : jFfin 11 3 true := ⟨RX11, TX11, 105, rfl, rfl, fun _ => rfl⟩
theorem fz_X11_3 : ∀ x : Int, jfit (jty 11 (Int.toNat 3)) x := fun _ => trivial
theorem fl_X11_16 : jFL RX11 16 11 4 2 := ⟨RX11, TX11, 105, rfl, by decide, by decide, jinT6 (List.mem_of_getElem? (i := 203) rfl) rfl, rfl⟩
theorem ff_X11_4 : jFfin 11 4 true := ⟨RX11, TX11, 105, rfl, rfl, fun _ => rfl⟩
theorem fz_X11_4 : ∀ x : Int, jfit (jty 11 (Int.toNat 4)) x := fun _ => trivial
theorem fl_X11_19 : jFL RX11 19 11 5 2 := ⟨RX11, TX11, 105, rfl, by decide, by decide, jinT6 (List.mem_of_getElem? (i := 204) rfl) rfl, rfl⟩
theorem ff_X11_5 : jFfin 11 5 true := ⟨RX11, TX11, 105, rfl, rfl, fun _ => rfl⟩
theorem fz_X11_5 : ∀ x : Int, jfit (jty 11 (Int.toNat 5)) x := fun _ => trivial
theorem fl_X11_22 : jFL RX11 22 11 6 2 := ⟨RX11, TX11, 105, rfl, by decide, by decide, jinT6 (List.mem_of_getElem? (i := 205) rfl) rfl, rfl⟩
theorem ff_X11_6 : jFfin 11 6 true := ⟨RX11, TX11, 105, rfl, rfl, fun _ => rfl⟩
theorem fz_X11_6 : ∀ x : Int, jfit (jty 11 (Int.toNat 6)) x := fun _ => trivial
theorem fl_X11_26 : jFL RX11 26 11 9 0 := ⟨RX11, TX11, 105, rfl, by decide, by decide, jinT6 (List.mem_of_getElem? (i := 208) rfl) rfl, rfl⟩
theorem ff_X11_9 : jFfin 11 9 false := ⟨RX11, TX11, 105, rfl, rfl, fun _ => rfl⟩
theorem fz_X11_9 : ∀ x : Int, jfit (jty 11 (Int.toNat 9)) x := fun _ => trivial
theorem fl_X11_30 : jFL RX11 30 11 14 2 := ⟨RX11, TX11, 105, rfl, by decide, by decide, jinT6 (List.mem_of_getElem? (i := 213) rfl) rfl, rfl⟩
theorem ff_X11_14 : jFfin 11 14 true := ⟨RX11, TX11, 105, rfl, rfl, fun _ => rfl⟩
theorem fz_X11_14 : ∀ x : Int, jfit (jty 11 (Int.toNat 14)) x := fun _ => trivial
theorem fl_X11_33 : jFL RX11 33 11 15 2 := ⟨RX11, TX11, 105, rfl, by decide, by decide, jinT6 (List.mem_of_getElem? (i := 214) rfl) rfl, rfl⟩
theorem ff_X11_15 : jFfin 11 15 true := ⟨RX11, TX11, 105, rfl, rfl, fun _ => rfl⟩
theorem fz_X11_15 : ∀ x : Int, jfit (jty 11 (Int.toNat 15)) x := fun _ => trivial
theorem fl_X11_36 : jFL RX11 36 11 16 2 := ⟨RX11, TX11, 105, rfl, by decide, by decide, jinT6 (List.mem_of_getElem? (i := 215) rfl) rfl, rfl⟩
theorem ff_X11_16 : jFfin 11 16 true := ⟨RX11, TX11, 105, rfl, rfl, fun _ => rfl⟩
theorem fz_X11_16 : ∀ x : Int, jfit (jty 11 (Int.toNat 16)) x := fun _ => trivial
theorem fl_X11_39 : jFL RX11 39 11 17 2 := ⟨RX11, TX11, 105, rfl, by decide, by decide, jinT6 (List.mem_of_getElem? (i := 216) rfl) rfl, rfl⟩
theorem ff_X11_17 : jFfin 11 17 true := ⟨RX11, TX11, 105, rfl, rfl, fun _ => rfl⟩
theorem fz_X11_17 : ∀ x : Int, jfit (jty 11 (Int.toNat 17)) x := fun _ => trivial
theorem fl_X11_42 : jFL RX11 42 11 18 2 := ⟨RX11, TX11, 105, rfl, by decide, by decide, jinT6 (List.mem_of_getElem? (i := 217) rfl) rfl, rfl⟩
theorem ff_X11_18 : jFfin 11 18 true := ⟨RX11, TX11, 105, rfl, rfl, fun _ => rfl⟩
theorem fz_X11_18 : ∀ x : Int, jfit (jty 11 (Int.toNat 18)) x := fun _ => trivial
theorem fl_X11_45 : jFL RX11 45 11 19 2 := ⟨RX11, TX11, 105, rfl, by decide, by decide, jinT6 (List.mem_of_getElem? (i := 218) rfl) rfl, rfl⟩
theorem ff_X11_19 : jFfin 11 19 true := ⟨RX11, TX11, 105, rfl, rfl, fun _ => rfl⟩
theorem fz_X11_19 : ∀ x : Int, jfit (jty 11 (Int.toNat 19)) x := fun _ => trivial
theorem fl_X11_48 : jFL RX11 48 11 20 2 := ⟨RX11, TX11, 105, rfl, by decide, by decide, jinT6 (List.mem_of_getElem? (i := 219) rfl) rfl, rfl⟩
theorem ff_X11_20 : jFfin 11 20 true := ⟨RX11, TX11, 105, rfl, rfl, fun _ => rfl⟩
theorem fz_X11_20 : ∀ x : Int, jfit (jty 11 (Int.toNat 20)) x := fun _ => trivial
theorem fl_X11_51 : jFL RX11 51 11 21 2 := ⟨RX11, TX11, 105, rfl, by decide, by decide, jinT6 (List.mem_of_getElem? (i := 220) rfl) rfl, rfl⟩
theorem ff_X11_21 : jFfin 11 21 true := ⟨RX11, TX11, 105, rfl, rfl, fun _ => rfl⟩
theorem fz_X11_21 : ∀ x : Int, jfit (jty 11 (Int.toNat 21)) x := fun _ => trivial
theorem fl_X11_54 : jFL RX11 54 11 22 2 := ⟨RX11, TX11, 105, rfl, by decide, by decide, jinT6 (List.mem_of_getElem? (i := 221) rfl) rfl, rfl⟩
theorem ff_X11_22 : jFfin 11 22 true := ⟨RX11, TX11, 105, rfl, rfl, fun _ => rfl⟩
theorem fz_X11_22 : ∀ x : Int, jfit (jty 11 (Int.toNat 22)) x := fun _ => trivial
theorem fl_X11_58 : jFL RX11 58 11 23 2 := ⟨RX11, TX11, 105, rfl, by decide, by decide, jinT6 (List.mem_of_getElem? (i := 222) rfl) rfl, rfl⟩
theorem ff_X11_23 : jFfin 11 23 true := ⟨RX11, TX11, 105, rfl, rfl, fun _ => rfl⟩
theorem fz_X11_23 : ∀ x : Int, jfit (jty 11 (Int.toNat 23)) x := fun _ => trivial
theorem fl_X11_61 : jFL RX11 61 11 24 2 := ⟨RX11, TX11, 105, rfl, by decide, by decide, jinT6 (List.mem_of_getElem? (i := 223) rfl) rfl, rfl⟩
theorem ff_X11_24 : jFfin 11 24 true := ⟨RX11, TX11, 105, rfl, rfl, fun _ => rfl⟩
theorem fz_X11_24 : ∀ x : Int, jfit (jty 11 (Int.toNat 24)) x := fun _ => trivial
theorem fl_X11_64 : jFL RX11 64 11 25 2 := ⟨RX11, TX11, 105, rfl, by decide, by decide, jinT6 (List.mem_of_getElem? (i := 224) rfl) rfl, rfl⟩
theorem ff_X11_25 : jFfin 11 25 true := ⟨RX11, TX11, 105, rfl, rfl, fun _ => rfl⟩
theorem fz_X11_25 : ∀ x : Int, jfit (jty 11 (Int.toNat 25)) x := fun _ => trivial
theorem fl_X11_67 : jFL RX11 67 11 26 2 := ⟨RX11, TX11, 105, rfl, by decide, by decide, jinT6 (List.mem_of_getElem? (i := 225) rfl) rfl, rfl⟩
theorem ff_X11_26 : jFfin 11 26 true := ⟨RX11, TX11, 105, rfl, rfl, fun _ => rfl⟩
theorem fz_X11_26 : ∀ x : Int, jfit (jty 11 (Int.toNat 26)) x := fun _ => trivial
theorem fl_X11_70 : jFL RX11 70 11 27 2 := ⟨RX11, TX11, 105, rfl, by decide, by decide, jinT6 (List.mem_of_getElem? (i := 226) rfl) rfl, rfl⟩
theorem ff_X11_27 : jFfin 11 27 true := ⟨RX11, TX11, 105, rfl, rfl, fun _ => rfl⟩
theorem fz_X11_27 : ∀ x : Int, jfit (jty 11 (Int.toNat 27)) x := fun _ => trivial
theorem fl_X11_73 : jFL RX11 73 11 28 2 := ⟨RX11, TX11, 105, rfl, by decide, by decide, jinT6 (List.mem_of_getElem? (i := 227) rfl) rfl, rfl⟩
theorem ff_X11_28 : jFfin 11 28 true := ⟨RX11, TX11, 105, rfl, rfl, fun _ => rfl⟩
theorem fz_X11_28 : ∀ x : Int, jfit (jty 11 (Int.toNat 28)) x := fun _ => trivial
theorem fl_X11_76 : jFL RX11 76 11 29 2 := ⟨RX11, TX11, 105, rfl, by decide, by decide, jinT6 (List.mem_of_getElem? (i := 228) rfl) rfl, rfl⟩
theorem ff_X11_29 : jFfin 11 29 true := ⟨RX11, TX11, 105, rfl, rfl, fun _ => rfl⟩
theorem fz_X11_29 : ∀ x : Int, jfit (jty 11 (Int.toNat 29)) x := fun _ => trivial
theorem fl_X11_79 : jFL RX11 79 11 30 2 := ⟨RX11, TX11, 105, rfl, by decide, by decide, jinT6 (List.mem_of_getElem? (i := 229) rfl) rfl, rfl⟩
theorem ff_X11_30 : jFfin 11 30 true := ⟨RX11, TX11, 105, rfl, rfl, fun _ => rfl⟩
theorem fz_X11_30 : ∀ x : Int, jfit (jty 11 (Int.toNat 30)) x := fun _ => trivial
theorem fl_X11_82 : jFL RX11 82 11 31 2 := ⟨RX11, TX11, 105, rfl, by decide, by decide, jinT6 (List.mem_of_getElem? (i := 230) rfl) rfl, rfl⟩
theorem ff_X11_31 : jFfin 11 31 true := ⟨RX11, TX11, 105, rfl, rfl, fun _ => rfl⟩
theorem fz_X11_31 : ∀ x : Int, jfit (jty 11 (Int.toNat 31)) x := fun _ => trivial
theorem fl_X11_85 : jFL RX11 85 11 32 2 := ⟨RX11, TX11, 105, rfl, by decide, by decide, jinT6 (List.mem_of_getElem? (i := 231) rfl) rfl, rfl⟩
theorem ff_X11_32 : jFfin 11 32 true := ⟨RX11, TX11, 105, rfl, rfl, fun _ => rfl⟩
theorem fz_X11_32 : ∀ x : Int, jfit (jty 11 (Int.toNat 32)) x := fun _ => trivial
theorem fl_X11_88 : jFL RX11 88 11 33 2 := ⟨RX11, TX11, 105, rfl, by decide, by decide, jinT6 (List.mem_of_getElem? (i := 232) rfl) rfl, rfl⟩
theorem ff_X11_33 : jFfin 11 33 true := ⟨RX11, TX11, 105, rfl, rfl, fun _ => rfl⟩
theorem fz_X11_33 : ∀ x : Int, jfit (jty 11 (Int.toNat 33)) x := fun _ => trivial
theorem fl_X11_91 : jFL RX11 91 11 34 2 := ⟨RX11, TX11, 105, rfl, by decide, by decide, jinT6 (List.mem_of_getElem? (i := 233) rfl) rfl, rfl⟩
theorem ff_X11_34 : jFfin 11 34 true := ⟨RX11, TX11, 105, rfl, rfl, fun _ => rfl⟩
theorem fz_X11_34 : ∀ x : Int, jfit (jty 11 (Int.toNat 34)) x := fun _ => trivial
theorem fl_X11_94 : jFL RX11 94 11 35 2 := ⟨RX11, TX11, 105, rfl, by decide, by decide, jinT6 (List.mem_of_getElem? (i := 234) rfl) rfl, rfl⟩
theorem ff_X11_35 : jFfin 11 35 true := ⟨RX11, TX11, 105, rfl, rfl, fun _ => rfl⟩
theorem fz_X11_35 : ∀ x : Int, jfit (jty 11 (Int.toNat 35)) x := fun _ => trivial
theorem fl_X11_97 : jFL RX11 97 11 36 2 := ⟨RX11, TX11, 105, rfl, by decide, by decide, jinT6 (List.mem_of_getElem? (i := 235) rfl) rfl, rfl⟩
theorem ff_X11_36 : jFfin 11 36 true := ⟨RX11, TX11, 105, rfl, rfl, fun _ => rfl⟩
theorem fz_X11_36 : ∀ x : Int, jfit (jty 11 (Int.toNat 36)) x := fun _ => trivial
theorem fl_X11_100 : jFL RX11 100 11 37 2 := ⟨RX11, TX11, 105, rfl, by decide, by decide, jinT6 (List.mem_of_getElem? (i := 236) rfl) rfl, rfl⟩
theorem ff_X11_37 : jFfin 11 37 true := ⟨RX11, TX11, 105, rfl, rfl, fun _ => rfl⟩
theorem fz_X11_37 : ∀ x : Int, jfit (jty 11 (Int.toNat 37)) x := fun _ => trivial
theorem fl_X11_103 : jFL RX11 103 11 38 2 := ⟨RX11, TX11, 105, rfl, by decide, by decide, jinT6 (List.mem_of_getElem? (i := 237) rfl) rfl, rfl⟩
theorem ff_X11_38 : jFfin 11 38 true := ⟨RX11, TX11, 105, rfl, rfl, fun _ => rfl⟩
theorem fz_X11_38 : ∀ x : Int, jfit (jty 11 (Int.toNat 38)) x := fun _ => trivial
theorem fl_X11_106 : jFL RX11 106 11 39 2 := ⟨RX11, TX11, 105, rfl, by decide, by decide, jinT6 (List.mem_of_getElem? (i := 238) rfl) rfl, rfl⟩
theorem ff_X11_39 : jFfin 11 39 true := ⟨RX11, TX11, 105, rfl, rfl, fun _ => rfl⟩
theorem fz_X11_39 : ∀ x : Int, jfit (jty 11 (Int.toNat 39)) x := fun _ => trivial
theorem fl_X11_109 : jFL RX11 109 11 40 2 := ⟨RX11, TX11, 105, rfl, by decide, by decide, jinT6 (List.mem_of_getElem? (i := 239) rfl) rfl, rfl⟩
theorem ff_X11_40 : jFfin 11 40 true := ⟨RX11, TX11, 105, rfl, rfl, fun _ => rfl⟩
theorem fz_X11_40 : ∀ x : Int, jfit (jty 11 (Int.toNat 40)) x := fun _ => trivial
theorem fl_X11_112 : jFL RX11 112 11 42 2 := ⟨RX11, TX11, 105, rfl, by decide, by decide, jinT7 (List.mem_of_getElem? (i := 1) rfl) rfl, rfl⟩
theorem ff_X11_42 : jFfin 11 42 true := ⟨RX11, TX11, 105, rfl, rfl, fun _ => rfl⟩
theorem fz_X11_42 : ∀ x : Int, jfit (jty 11 (Int.toNat 42)) x := fun _ => trivial
theorem fl_X11_115 : jFL RX11 115 11 43 2 := ⟨RX11, TX11, 105, rfl, by decide, by decide, jinT7 (List.mem_of_getElem? (i := 2) rfl) rfl, rfl⟩
theorem ff_X11_43 : jFfin 11 43 true := ⟨RX11, TX11, 105, rfl, rfl, fun _ => rfl⟩
theorem fz_X11_43 : ∀ x : Int, jfit (jty 11 (Int.toNat 43)) x := fun _ => trivial
theorem fl_X11_118 : jFL RX11 118 11 45 2 := ⟨RX11, TX11, 105, rfl, by decide, by decide, jinT7 (List.mem_of_getElem? (i := 4) rfl) rfl, rfl⟩
theorem ff_X11_45 : jFfin 11 45 true := ⟨RX11, TX11, 105, rfl, rfl, fun _ => rfl⟩
theorem fz_X11_45 : ∀ x : Int, jfit (jty 11 (Int.toNat 45)) x := fun _ => trivial
theorem fl_X11_121 : jFL RX11 121 11 46 2 := ⟨RX11, TX11, 105, rfl, by decide, by decide, jinT7 (List.mem_of_getElem? (i := 5) rfl) rfl, rfl⟩
theorem ff_X11_46 : jFfin 11 46 true := ⟨RX11, TX11, 105, rfl, rfl, fun _ => rfl⟩
theorem fz_X11_46 : ∀ x : Int, jfit (jty 11 (Int.toNat 46)) x := fun _ => trivial
theorem fl_X11_124 : jFL RX11 124 11 47 2 := ⟨RX11, TX11, 105, rfl, by decide, by decide, jinT7 (List.mem_of_getElem? (i := 6) rfl) rfl, rfl⟩
theorem ff_X11_47 : jFfin 11 47 true := ⟨RX11, TX11, 105, rfl, rfl, fun _ => rfl⟩
theorem fz_X11_47 : ∀ x : Int, jfit (jty 11 (Int.toNat 47)) x := fun _ => trivial
theorem fl_X11_127 : jFL RX11 127 11 48 2 := ⟨RX11, TX11, 105, rfl, by decide, by decide, jinT7 (List.mem_of_getElem? (i := 7) rfl) rfl, rfl⟩
theorem ff_X11_48 : jFfin 11 48 true := ⟨RX11, TX11, 105, rfl, rfl, fun _ => rfl⟩
theorem fz_X11_48 : ∀ x : Int, jfit (jty 11 (Int.toNat 48)) x := fun _ => trivial
theorem fl_X11_130 : jFL RX11 130 11 49 2 := ⟨RX11, TX11, 105, rfl, by decide, by decide, jinT7 (List.mem_of_getElem? (i := 8) rfl) rfl, rfl⟩
theorem ff_X11_49 : jFfin 11 49 true := ⟨RX11, TX11, 105, rfl, rfl, fun _ => rfl⟩
theorem fz_X11_49 : ∀ x : Int, jfit (jty 11 (Int.toNat 49)) x := fun _ => trivial
theorem fl_X11_133 : jFL RX11 133 11 51 2 := ⟨RX11, TX11, 105, rfl, by decide, by decide, jinT7 (List.mem_of_getElem? (i := 10) rfl) rfl, rfl⟩
theorem ff_X11_51 : jFfin 11 51 true := ⟨RX11, TX11, 105, rfl, rfl, fun _ => rfl⟩
theorem fz_X11_51 : ∀ x : Int, jfit (jty 11 (Int.toNat 51)) x := fun _ => trivial
theorem fl_X11_136 : jFL RX11 136 11 53 2 := ⟨RX11, TX11, 105, rfl, by decide, by decide, jinT7 (List.mem_of_getElem? (i := 12) rfl) rfl, rfl⟩
theorem ff_X11_53 : jFfin 11 53 true := ⟨RX11, TX11, 105, rfl, rfl, fun _ => rfl⟩
theorem fz_X11_53 : ∀ x : Int, jfit (jty 11 (Int.toNat 53)) x := fun _ => trivial
theorem fl_X11_139 : jFL RX11 139 11 54 2 := ⟨RX11, TX11, 105, rfl, by decide, by decide, jinT7 (List.mem_of_getElem? (i := 13) rfl) rfl, rfl⟩
theorem ff_X11_54 : jFfin 11 54 true := ⟨RX11, TX11, 105, rfl, rfl, fun _ => rfl⟩
theorem fz_X11_54 : ∀ x : Int, jfit (jty 11 (Int.toNat 54)) x := fun _ => trivial
theorem fl_X11_142 : jFL RX11 142 11 55 2 := ⟨RX11, TX11, 105, rfl, by decide, by decide, jinT7 (List.mem_of_getElem? (i := 14) rfl) rfl, rfl⟩
theorem ff_X11_55 : jFfin 11 55 true := ⟨RX11, TX11, 105, rfl, rfl, fun _ => rfl⟩
theorem fz_X11_55 : ∀ x : Int, jfit (jty 11 (Int.toNat 55)) x := fun _ => trivial
theorem fl_X11_145 : jFL RX11 145 11 57 2 := ⟨RX11, TX11, 105, rfl, by decide, by decide, jinT7 (List.mem_of_getElem? (i := 16) rfl) rfl, rfl⟩
theorem ff_X11_57 : jFfin 11 57 true := ⟨RX11, TX11, 105, rfl, rfl, fun _ => rfl⟩
theorem fz_X11_57 : ∀ x : Int, jfit (jty 11 (Int.toNat 57)) x := fun _ => trivial
theorem fl_X11_148 : jFL RX11 148 11 58 2 := ⟨RX11, TX11, 105, rfl, by decide, by decide, jinT7 (List.mem_of_getElem? (i := 17) rfl) rfl, rfl⟩
theorem ff_X11_58 : jFfin 11 58 true := ⟨RX11, TX11, 105, rfl, rfl, fun _ => rfl⟩
theorem fz_X11_58 : ∀ x : Int, jfit (jty 11 (Int.toNat 58)) x := fun _ => trivial
theorem fl_X11_151 : jFL RX11 151 11 59 2 := ⟨RX11, TX11, 105, rfl, by decide, by decide, jinT7 (List.mem_of_getElem? (i := 18) rfl) rfl, rfl⟩
theorem ff_X11_59 : jFfin 11 59 true := ⟨RX11, TX11, 105, rfl, rfl, fun _ => rfl⟩
theorem fz_X11_59 : ∀ x : Int, jfit (jty 11 (Int.toNat 59)) x := fun _ => trivial
theorem fl_X11_154 : jFL RX11 154 11 61 2 := ⟨RX11, TX11, 105, rfl, by decide, by decide, jinT7 (List.mem_of_getElem? (i := 20) rfl) rfl, rfl⟩
theorem ff_X11_61 : jFfin 11 61 true := ⟨RX11, TX11, 105, rfl, rfl, fun _ => rfl⟩
theorem fz_X11_61 : ∀ x : Int, jfit (jty 11 (Int.toNat 61)) x := fun _ => trivial
theorem fl_X11_157 : jFL RX11 157 11 62 2 := ⟨RX11, TX11, 105, rfl, by decide, by decide, jinT7 (List.mem_of_getElem? (i := 21) rfl) rfl, rfl⟩
theorem ff_X11_62 : jFfin 11 62 true := ⟨RX11, TX11, 105, rfl, rfl, fun _ => rfl⟩
theorem fz_X11_62 : ∀ x : Int, jfit (jty 11 (Int.toNat 62)) x := fun _ => trivial
theorem fl_X11_160 : jFL RX11 160 11 63 2 := ⟨RX11, TX11, 105, rfl, by decide, by decide, jinT7 (List.mem_of_getElem? (i := 22) rfl) rfl, rfl⟩
theorem ff_X11_63 : jFfin 11 63 true := ⟨RX11, TX11, 105, rfl, rfl, fun _ => rfl⟩
theorem fz_X11_63 : ∀ x : Int, jfit (jty 11 (Int.toNat 63)) x := fun _ => trivial
theorem fl_X11_163 : jFL RX11 163 11 66 2 := ⟨RX11, TX11, 105, rfl, by decide, by decide, jinT7 (List.mem_of_getElem? (i := 25) rfl) rfl, rfl⟩
theorem ff_X11_66 : jFfin 11 66 true := ⟨RX11, TX11, 105, rfl, rfl, fun _ => rfl⟩
theorem fz_X11_66 : ∀ x : Int, jfit (jty 11 (Int.toNat 66)) x := fun _ => trivial
theorem fl_X11_166 : jFL RX11 166 11 70 2 := ⟨RX11, TX11, 105, rfl, by decide, by decide, jinT7 (List.mem_of_getElem? (i := 29) rfl) rfl, rfl⟩
theorem ff_X11_70 : jFfin 11 70 true := ⟨RX11, TX11, 105, rfl, rfl, fun _ => rfl⟩
theorem fz_X11_70 : ∀ x : Int, jfit (jty 11 (Int.toNat 70)) x := fun _ => trivial
theorem fl_X11_169 : jFL RX11 169 11 71 2 := ⟨RX11, TX11, 105, rfl, by decide, by decide, jinT7 (List.mem_of_getElem? (i := 30) rfl) rfl, rfl⟩
theorem ff_X11_71 : jFfin 11 71 true := ⟨RX11, TX11, 105, rfl, rfl, fun _ => rfl⟩
theorem fz_X11_71 : ∀ x : Int, jfit (jty 11 (Int.toNat 71)) x := fun _ => trivial
theorem fl_X11_172 : jFL RX11 172 11 72 2 := ⟨RX11, TX11, 105, rfl, by decide, by decide, jinT7 (List.mem_of_getElem? (i := 31) rfl) rfl, rfl⟩
theorem ff_X11_72 : jFfin 11 72 true := ⟨RX11, TX11, 105, rfl, rfl, fun _ => rfl⟩
theorem fz_X11_72 : ∀ x : Int, jfit (jty 11 (Int.toNat 72)) x := fun _ => trivial
theorem fl_X11_175 : jFL RX11 175 11 73 2 := ⟨RX11, TX11, 105, rfl, by decide, by decide, jinT7 (List.mem_of_getElem? (i := 32) rfl) rfl, rfl⟩
theorem ff_X11_73 : jFfin 11 73 true := ⟨RX11, TX11, 105, rfl, rfl, fun _ => rfl⟩
theorem fz_X11_73 : ∀ x : Int, jfit (jty 11 (Int.toNat 73)) x := fun _ => trivial
theorem fl_X11_178 : jFL RX11 178 11 74 2 := ⟨RX11, TX11, 105, rfl, by decide, by decide, jinT7 (List.mem_of_getElem? (i := 33) rfl) rfl, rfl⟩
theorem ff_X11_74 : jFfin 11 74 true := ⟨RX11, TX11, 105, rfl, rfl, fun _ => rfl⟩
theorem fz_X11_74 : ∀ x : Int, jfit (jty 11 (Int.toNat 74)) x := fun _ => trivial
theorem fl_X11_181 : jFL RX11 181 11 76 2 := ⟨RX11, TX11, 105, rfl, by decide, by decide, jinT7 (List.mem_of_getElem? (i := 35) rfl) rfl, rfl⟩
theorem ff_X11_76 : jFfin 11 76 true := ⟨RX11, TX11, 105, rfl, rfl, fun _ => rfl⟩
theorem fz_X11_76 : ∀ x : Int, jfit (jty 11 (Int.toNat 76)) x := fun _ => trivial
theorem fl_X11_184 : jFL RX11 184 11 77 2 := ⟨RX11, TX11, 105, rfl, by decide, by decide, jinT7 (List.mem_of_getElem? (i := 36) rfl) rfl, rfl⟩
theorem ff_X11_77 : jFfin 11 77 true := ⟨RX11, TX11, 105, rfl, rfl, fun _ => rfl⟩
theorem fz_X11_77 : ∀ x : Int, jfit (jty 11 (Int.toNat 77)) x := fun _ => trivial
theorem fl_X11_187 : jFL RX11 187 11 78 2 := ⟨RX11, TX11, 105, rfl, by decide, by decide, jinT7 (List.mem_of_getElem? (i := 37) rfl) rfl, rfl⟩
theorem ff_X11_78 : jFfin 11 78 true := ⟨RX11, TX11, 105, rfl, rfl, fun _ => rfl⟩
theorem fz_X11_78 : ∀ x : Int, jfit (jty 11 (Int.toNat 78)) x := fun _ => trivial
theorem fl_X11_190 : jFL RX11 190 11 79 2 := ⟨RX11, TX11, 105, rfl, by decide, by decide, jinT7 (List.mem_of_getElem? (i := 38) rfl) rfl, rfl⟩
theorem ff_X11_79 : jFfin 11 79 true := ⟨RX11, TX11, 105, rfl, rfl, fun _ => rfl⟩
theorem fz_X11_79 : ∀ x : Int, jfit (jty 11 (Int.toNat 79)) x := fun _ => trivial
theorem fl_X11_193 : jFL RX11 193 11 80 2 := ⟨RX11, TX11, 105, rfl, by decide, by decide, jinT7 (List.mem_of_getElem? (i := 39) rfl) rfl, rfl⟩
theorem ff_X11_80 : jFfin 11 80 true := ⟨RX11, TX11, 105, rfl, rfl, fun _ => rfl⟩
theorem fz_X11_80 : ∀ x : Int, jfit (jty 11 (Int.toNat 80)) x := fun _ => trivial
theorem fl_X11_196 : jFL RX11 196 11 81 2 := ⟨RX11, TX11, 105, rfl, by decide, by decide, jinT7 (List.mem_of_getElem? (i := 40) rfl) rfl, rfl⟩
theorem ff_X11_81 : jFfin 11 81 true := ⟨RX11, TX11, 105, rfl, rfl, fun _ => rfl⟩
theorem fz_X11_81 : ∀ x : Int, jfit (jty 11 (Int.toNat 81)) x := fun _ => trivial
theorem fl_X11_199 : jFL RX11 199 11 82 2 := ⟨RX11, TX11, 105, rfl, by decide, by decide, jinT7 (List.mem_of_getElem? (i := 41) rfl) rfl, rfl⟩
theorem ff_X11_82 : jFfin 11 82 true := ⟨RX11, TX11, 105, rfl, rfl, fun _ => rfl⟩
theorem fz_X11_82 : ∀ x : Int, jfit (jty 11 (Int.toNat 82)) x := fun _ => trivial
theorem fl_X11_202 : jFL RX11 202 11 83 2 := ⟨RX11, TX11, 105, rfl, by decide, by decide, jinT7 (List.mem_of_getElem? (i := 42) rfl) rfl, rfl⟩
theorem ff_X11_83 : jFfin 11 83 true := ⟨RX11, TX11, 105, rfl, rfl, fun _ => rfl⟩
theorem fz_X11_83 : ∀ x : Int, jfit (jty 11 (Int.toNat 83)) x := fun _ => trivial
theorem fl_X11_205 : jFL RX11 205 11 84 2 := ⟨RX11, TX11, 105, rfl, by decide, by decide, jinT7 (List.mem_of_getElem? (i := 43) rfl) rfl, rfl⟩
theorem ff_X11_84 : jFfin 11 84 true := ⟨RX11, TX11, 105, rfl, rfl, fun _ => rfl⟩
theorem fz_X11_84 : ∀ x : Int, jfit (jty 11 (Int.toNat 84)) x := fun _ => trivial
theorem fl_X11_208 : jFL RX11 208 11 85 2 := ⟨RX11, TX11, 105, rfl, by decide, by decide, jinT7 (List.mem_of_getElem? (i := 44) rfl) rfl, rfl⟩
theorem ff_X11_85 : jFfin 11 85 true := ⟨RX11, TX11, 105, rfl, rfl, fun _ => rfl⟩
theorem fz_X11_85 : ∀ x : Int, jfit (jty 11 (Int.toNat 85)) x := fun _ => trivial
theorem fl_X11_211 : jFL RX11 211 11 87 2 := ⟨RX11, TX11, 105, rfl, by decide, by decide, jinT7 (List.mem_of_getElem? (i := 46) rfl) rfl, rfl⟩
theorem ff_X11_87 : jFfin 11 87 true := ⟨RX11, TX11, 105, rfl, rfl, fun _ => rfl⟩
theorem fz_X11_87 : ∀ x : Int, jfit (jty 11 (Int.toNat 87)) x := fun _ => trivial
theorem fl_X11_214 : jFL RX11 214 11 90 2 := ⟨RX11, TX11, 105, rfl, by decide, by decide, jinT7 (List.mem_of_getElem? (i := 49) rfl) rfl, rfl⟩
theorem ff_X11_90 : jFfin 11 90 true := ⟨RX11, TX11, 105, rfl, rfl, fun _ => rfl⟩
theorem fz_X11_90 : ∀ x : Int, jfit (jty 11 (Int.toNat 90)) x := fun _ => trivial
theorem fl_X11_217 : jFL RX11 217 11 91 2 := ⟨RX11, TX11, 105, rfl, by decide, by decide, jinT7 (List.mem_of_getElem? (i := 50) rfl) rfl, rfl⟩
theorem ff_X11_91 : jFfin 11 91 true := ⟨RX11, TX11, 105, rfl, rfl, fun _ => rfl⟩
theorem fz_X11_91 : ∀ x : Int, jfit (jty 11 (Int.toNat 91)) x := fun _ => trivial
theorem fl_X11_220 : jFL RX11 220 11 92 2 := ⟨RX11, TX11, 105, rfl, by decide, by decide, jinT7 (List.mem_of_getElem? (i := 51) rfl) rfl, rfl⟩
theorem ff_X11_92 : jFfin 11 92 true := ⟨RX11, TX11, 105, rfl, rfl, fun _ => rfl⟩
theorem fz_X11_92 : ∀ x : Int, jfit (jty 11 (Int.toNat 92)) x := fun _ => trivial
theorem fl_X11_223 : jFL RX11 223 11 93 2 := ⟨RX11, TX11, 105, rfl, by decide, by decide, jinT7 (List.mem_of_getElem? (i := 52) rfl) rfl, rfl⟩
theorem ff_X11_93 : jFfin 11 93 true := ⟨RX11, TX11, 105, rfl, rfl, fun _ => rfl⟩
theorem fz_X11_93 : ∀ x : Int, jfit (jty 11 (Int.toNat 93)) x := fun _ => trivial
theorem fl_X11_226 : jFL RX11 226 11 94 2 := ⟨RX11, TX11, 105, rfl, by decide, by decide, jinT7 (List.mem_of_getElem? (i := 53) rfl) rfl, rfl⟩
theorem ff_X11_94 : jFfin 11 94 true := ⟨RX11, TX11, 105, rfl, rfl, fun _ => rfl⟩
theorem fz_X11_94 : ∀ x : Int, jfit (jty 11 (Int.toNat 94)) x := fun _ => trivial
theorem fl_X11_229 : jFL RX11 229 11 95 2 := ⟨RX11, TX11, 105, rfl, by decide, by decide, jinT7 (List.mem_of_getElem? (i := 54) rfl) rfl, rfl⟩
theorem ff_X11_95 : jFfin 11 95 true := ⟨RX11, TX11, 105, rfl, rfl, fun _ => rfl⟩
theorem fz_X11_95 : ∀ x : Int, jfit (jty 11 (Int.toNat 95)) x := fun _ => trivial
theorem fl_X11_232 : jFL RX11 232 11 96 2 := ⟨RX11, TX11, 105, rfl, by decide, by decide, jinT7 (List.mem_of_getElem? (i := 55) rfl) rfl, rfl⟩
theorem ff_X11_96 : jFfin 11 96 true := ⟨RX11, TX11, 105, rfl, rfl, fun _ => rfl⟩
theorem fz_X11_96 : ∀ x : Int, jfit (jty 11 (Int.toNat 96)) x := fun _ => trivial
theorem fl_X11_235 : jFL RX11 235 11 97 2 := ⟨RX11, TX11, 105, rfl, by decide, by decide, jinT7 (List.mem_of_getElem? (i := 56) rfl) rfl, rfl⟩
theorem ff_X11_97 : jFfin 11 97 true := ⟨RX11, TX11, 105, rfl, rfl, fun _ => rfl⟩
theorem fz_X11_97 : ∀ x : Int, jfit (jty 11 (Int.toNat 97)) x := fun _ => trivial
theorem fl_X11_238 : jFL RX11 238 11 98 2 := ⟨RX11, TX11, 105, rfl, by decide, by decide, jinT7 (List.mem_of_getElem? (i := 57) rfl) rfl, rfl⟩
theorem ff_X11_98 : jFfin 11 98 true := ⟨RX11, TX11, 105, rfl, rfl, fun _ => rfl⟩
theorem fz_X11_98 : ∀ x : Int, jfit (jty 11 (Int.toNat 98)) x := fun _ => trivial
theorem fl_X11_241 : jFL RX11 241 11 99 2 := ⟨RX11, TX11, 105, rfl, by decide, by decide, jinT7 (List.mem_of_getElem? (i := 58) rfl) rfl, rfl⟩
theorem ff_X11_99 : jFfin 11 99 true := ⟨RX11, TX11, 105, rfl, rfl, fun _ => rfl⟩
theorem fz_X11_99 : ∀ x : Int, jfit (jty 11 (Int.toNat 99)) x := fun _ => trivial
theorem fl_X11_244 : jFL RX11 244 11 100 2 := ⟨RX11, TX11, 105, rfl, by decide, by decide, jinT7 (List.mem_of_getElem? (i := 59) rfl) rfl, rfl⟩
theorem ff_X11_100 : jFfin 11 100 true := ⟨RX11, TX11, 105, rfl, rfl, fun _ => rfl⟩
theorem fz_X11_100 : ∀ x : Int, jfit (jty 11 (Int.toNat 100)) x := fun _ => trivial
theorem fl_X11_247 : jFL RX11 247 11 101 2 := ⟨RX11, TX11, 105, rfl, by decide, by decide, jinT7 (List.mem_of_getElem? (i := 60) rfl) rfl, rfl⟩
theorem ff_X11_101 : jFfin 11 101 true := ⟨RX11, TX11, 105, rfl, rfl, fun _ => rfl⟩
theorem fz_X11_101 : ∀ x : Int, jfit (jty 11 (Int.toNat 101)) x := fun _ => trivial
theorem fl_X11_250 : jFL RX11 250 11 0 0 := ⟨RX11, TX11, 105, rfl, by decide, by decide, jinT6 (List.mem_of_getElem? (i := 199) rfl) rfl, rfl⟩
theorem cv_X11_253 : jCV RX11 253 iX11_typed 1 := ⟨jinT8 (List.mem_of_getElem? (i := 39) rfl) rfl, wiX11_typed, wlX11_typed, wcX11_typed, wnX11, wpX11_typed, by decide⟩
theorem ff_X11_0 : jFfin 11 0 false := ⟨RX11, TX11, 105, rfl, rfl, fun _ => rfl⟩
theorem fz_X11_0 : ∀ x : Int, jfit (jty 11 (Int.toNat 0)) x := fun _ => trivial
theorem cv_X11_257 : jCV RX11 257 iX11_byteAt 1 := ⟨jinT8 (List.mem_of_getElem? (i := 55) rfl) rfl, wiX11_byteAt, wlX11_byteAt, wcX11_byteAt, wnX11, wpX11_byteAt, by decide⟩
theorem fl_X11_261 : jFL RX11 261 11 2 0 := ⟨RX11, TX11, 105, rfl, by decide, by decide, jinT6 (List.mem_of_getElem? (i := 201) rfl) rfl, rfl⟩
theorem ff_X11_2 : jFfin 11 2 false := ⟨RX11, TX11, 105, rfl, rfl, fun _ => rfl⟩
theorem fz_X11_2 : ∀ x : Int, jfit (jty 11 (Int.toNat 2)) x := fun _ => trivial
theorem cv_X11_308 : jCV RX11 308 iX11_isLetter 1 := ⟨jinT8 (List.mem_of_getElem? (i := 63) rfl) rfl, wiX11_isLetter, wlX11_isLetter, wcX11_isLetter, wnX11, wpX11_isLetter, by decide⟩
theorem cs_X11_316 : jCS RX11 316 iX11_wordOf 1 := ⟨jinT8 (List.mem_of_getElem? (i := 69) rfl) rfl, wtX11_wordOf, wcX11_wordOf, wnX11, wpX11_wordOf, by decide⟩
theorem cv_X11_320 : jCV RX11 320 iX11_token 3 := ⟨jinT8 (List.mem_of_getElem? (i := 94) rfl) rfl, wiX11_token, wlX11_token, wcX11_token, wnX11, wpX11_token, by decide⟩
theorem cv_X11_324 : jCV RX11 324 iX11_isDigit 1 := ⟨jinT8 (List.mem_of_getElem? (i := 98) rfl) rfl, wiX11_isDigit, wlX11_isDigit, wcX11_isDigit, wnX11, wpX11_isDigit, by decide⟩
theorem cv_X11_327 : jCV RX11 327 iX11_signAt 1 := ⟨jinT8 (List.mem_of_getElem? (i := 102) rfl) rfl, wiX11_signAt, wlX11_signAt, wcX11_signAt, wnX11, wpX11_signAt, by decide⟩
theorem cv_X11_330 : jCV RX11 330 iX11_scan 1 := ⟨jinT8 (List.mem_of_getElem? (i := 59) rfl) rfl, wiX11_scan, wlX11_scan, wcX11_scan, wnX11, wpX11_scan, by decide⟩
theorem fl_X11_333 : jFL RX11 333 11 8 0 := ⟨RX11, TX11, 105, rfl, by decide, by decide, jinT6 (List.mem_of_getElem? (i := 207) rfl) rfl, rfl⟩
theorem ff_X11_8 : jFfin 11 8 false := ⟨RX11, TX11, 105, rfl, rfl, fun _ => rfl⟩
theorem fz_X11_8 : ∀ x : Int, jfit (jty 11 (Int.toNat 8)) x := fun _ => trivial
theorem fl_X11_336 : jFL RX11 336 11 7 0 := ⟨RX11, TX11, 105, rfl, by decide, by decide, jinT6 (List.mem_of_getElem? (i := 206) rfl) rfl, rfl⟩
theorem fl_X11_339 : jFL RX11 339 11 10 0 := ⟨RX11, TX11, 105, rfl, by decide, by decide, jinT6 (List.mem_of_getElem? (i := 209) rfl) rfl, rfl⟩
theorem fl_X11_342 : jFL RX11 342 11 11 0 := ⟨RX11, TX11, 105, rfl, by decide, by decide, jinT6 (List.mem_of_getElem? (i := 210) rfl) rfl, rfl⟩
theorem ff_X11_10 : jFfin 11 10 false := ⟨RX11, TX11, 105, rfl, rfl, fun _ => rfl⟩
theorem fz_X11_10 : ∀ x : Int, jfit (jty 11 (Int.toNat 10)) x := fun _ => trivial
theorem ff_X11_11 : jFfin 11 11 false := ⟨RX11, TX11, 105, rfl, rfl, fun _ => rfl⟩
theorem fz_X11_11 : ∀ x : Int, jfit (jty 11 (Int.toNat 11)) x := fun _ => trivial
theorem cv_X11_345 : jCV RX11 345 iX11_wrong 1 := ⟨jinT8 (List.mem_of_getElem? (i := 118) rfl) rfl, wiX11_wrong, wlX11_wrong, wcX11_wrong, wnX11, wpX11_wrong, by decide⟩
theorem ff_X11_7 : jFfin 11 7 false := ⟨RX11, TX11, 105, rfl, rfl, fun _ => rfl⟩
theorem fz_X11_7 : ∀ x : Int, jfit (jty 11 (Int.toNat 7)) x := fun _ => trivial
theorem cv_X11_348 : jCV RX11 348 iX11_pass 0 := ⟨jinT8 (List.mem_of_getElem? (i := 122) rfl) rfl, wiX11_pass, wlX11_pass, wcX11_pass, wnX11, wpX11_pass, by decide⟩
theorem cv_X11_352 : jCV RX11 352 iX11_takes 1 := ⟨jinT8 (List.mem_of_getElem? (i := 130) rfl) rfl, wiX11_takes, wlX11_takes, wcX11_takes, wnX11, wpX11_takes, by decide⟩
theorem fl_X11_355 : jFL RX11 355 11 64 0 := ⟨RX11, TX11, 105, rfl, by decide, by decide, jinT7 (List.mem_of_getElem? (i := 23) rfl) rfl, rfl⟩
theorem ff_X11_64 : jFfin 11 64 false := ⟨RX11, TX11, 105, rfl, rfl, fun _ => rfl⟩
theorem fz_X11_64 : ∀ x : Int, jfit (jty 11 (Int.toNat 64)) x := fun _ => trivial
theorem cv_X11_358 : jCV RX11 358 iX11_tells 2 := ⟨jinT8 (List.mem_of_getElem? (i := 134) rfl) rfl, wiX11_tells, wlX11_tells, wcX11_tells, wnX11, wpX11_tells, by decide⟩
theorem fl_X11_362 : jFL RX11 362 11 13 0 := ⟨RX11, TX11, 105, rfl, by decide, by decide, jinT6 (List.mem_of_getElem? (i := 212) rfl) rfl, rfl⟩
theorem fl_X11_365 : jFL RX11 365 11 65 0 := ⟨RX11, TX11, 105, rfl, by decide, by decide, jinT7 (List.mem_of_getElem? (i := 24) rfl) rfl, rfl⟩
theorem cs_X11_368 : jCS RX11 368 iX11_rank 1 := ⟨jinT8 (List.mem_of_getElem? (i := 193) rfl) rfl, wtX11_rank, wcX11_rank, wnX11, wpX11_rank, by decide⟩
theorem ff_X11_65 : jFfin 11 65 false := ⟨RX11, TX11, 105, rfl, rfl, fun _ => rfl⟩
theorem fz_X11_65 : ∀ x : Int, jfit (jty 11 (Int.toNat 65)) x := fun _ => trivial
theorem cv_X11_371 : jCV RX11 371 iX11_emit 2 := ⟨jinT8 (List.mem_of_getElem? (i := 185) rfl) rfl, wiX11_emit, wlX11_emit, wcX11_emit, wnX11, wpX11_emit, by decide⟩
theorem fl_X11_374 : jFL RX11 374 11 67 0 := ⟨RX11, TX11, 105, rfl, by decide, by decide, jinT7 (List.mem_of_getElem? (i := 26) rfl) rfl, rfl⟩
theorem ff_X11_67 : jFfin 11 67 false := ⟨RX11, TX11, 105, rfl, rfl, fun _ => rfl⟩
theorem fz_X11_67 : ∀ x : Int, jfit (jty 11 (Int.toNat 67)) x := fun _ => trivial
theorem cv_X11_377 : jCV RX11 377 iX11_isSign 1 := ⟨jinT8 (List.mem_of_getElem? (i := 174) rfl) rfl, wiX11_isSign, wlX11_isSign, wcX11_isSign, wnX11, wpX11_isSign, by decide⟩
theorem cv_X11_380 : jCV RX11 380 iX11_await 1 := ⟨jinT8 (List.mem_of_getElem? (i := 178) rfl) rfl, wiX11_await, wlX11_await, wcX11_await, wnX11, wpX11_await, by decide⟩
theorem cs_X11_383 : jCS RX11 383 iX11_variableOf 1 := ⟨jinT8 (List.mem_of_getElem? (i := 182) rfl) rfl, wtX11_variableOf, wcX11_variableOf, wnX11, wpX11_variableOf, by decide⟩
theorem cv_X11_386 : jCV RX11 386 iX11_reduce 2 := ⟨jinT8 (List.mem_of_getElem? (i := 189) rfl) rfl, wiX11_reduce, wlX11_reduce, wcX11_reduce, wnX11, wpX11_reduce, by decide⟩
theorem fl_X11_389 : jFL RX11 389 11 68 0 := ⟨RX11, TX11, 105, rfl, by decide, by decide, jinT7 (List.mem_of_getElem? (i := 27) rfl) rfl, rfl⟩
theorem ff_X11_68 : jFfin 11 68 false := ⟨RX11, TX11, 105, rfl, rfl, fun _ => rfl⟩
theorem fz_X11_68 : ∀ x : Int, jfit (jty 11 (Int.toNat 68)) x := fun _ => trivial
theorem cv_X11_392 : jCV RX11 392 iX11_isWord 1 := ⟨jinT8 (List.mem_of_getElem? (i := 150) rfl) rfl, wiX11_isWord, wlX11_isWord, wcX11_isWord, wnX11, wpX11_isWord, by decide⟩
theorem cv_X11_395 : jCV RX11 395 iX11_expr 0 := ⟨jinT8 (List.mem_of_getElem? (i := 170) rfl) rfl, wiX11_expr, wlX11_expr, wcX11_expr, wnX11, wpX11_expr, by decide⟩
theorem fl_X11_398 : jFL RX11 398 11 41 0 := ⟨RX11, TX11, 105, rfl, by decide, by decide, jinT7 (List.mem_of_getElem? (i := 0) rfl) rfl, rfl⟩
theorem ff_X11_41 : jFfin 11 41 false := ⟨RX11, TX11, 105, rfl, rfl, fun _ => rfl⟩
theorem fz_X11_41 : ∀ x : Int, jfit (jty 11 (Int.toNat 41)) x := fun _ => trivial
theorem cv_X11_401 : jCV RX11 401 iX11_placeAt 1 := ⟨jinT8 (List.mem_of_getElem? (i := 142) rfl) rfl, wiX11_placeAt, wlX11_placeAt, wcX11_placeAt, wnX11, wpX11_placeAt, by decide⟩
theorem cv_X11_404 : jCV RX11 404 iX11_takesInt 2 := ⟨jinT8 (List.mem_of_getElem? (i := 146) rfl) rfl, wiX11_takesInt, wlX11_takesInt, wcX11_takesInt, wnX11, wpX11_takesInt, by decide⟩
theorem cv_X11_408 : jCV RX11 408 iX11_names 1 := ⟨jinT8 (List.mem_of_getElem? (i := 126) rfl) rfl, wiX11_names, wlX11_names, wcX11_names, wnX11, wpX11_names, by decide⟩
theorem cv_X11_410 : jCV RX11 410 iX11_cond 0 := ⟨jinT8 (List.mem_of_getElem? (i := 166) rfl) rfl, wiX11_cond, wlX11_cond, wcX11_cond, wnX11, wpX11_cond, by decide⟩
theorem cv_X11_413 : jCV RX11 413 iX11_tellWay 0 := ⟨jinT8 (List.mem_of_getElem? (i := 138) rfl) rfl, wiX11_tellWay, wlX11_tellWay, wcX11_tellWay, wnX11, wpX11_tellWay, by decide⟩
theorem cv_X11_416 : jCV RX11 416 iX11_tellSchool 0 := ⟨jinT8 (List.mem_of_getElem? (i := 154) rfl) rfl, wiX11_tellSchool, wlX11_tellSchool, wcX11_tellSchool, wnX11, wpX11_tellSchool, by decide⟩
theorem cv_X11_419 : jCV RX11 419 iX11_tellStop 0 := ⟨jinT8 (List.mem_of_getElem? (i := 158) rfl) rfl, wiX11_tellStop, wlX11_tellStop, wcX11_tellStop, wnX11, wpX11_tellStop, by decide⟩
theorem cv_X11_422 : jCV RX11 422 iX11_tellRight 0 := ⟨jinT8 (List.mem_of_getElem? (i := 162) rfl) rfl, wiX11_tellRight, wlX11_tellRight, wcX11_tellRight, wnX11, wpX11_tellRight, by decide⟩
theorem cv_X11_425 : jCV RX11 425 iX11_tellNumber 2 := ⟨jinT8 (List.mem_of_getElem? (i := 196) rfl) rfl, wiX11_tellNumber, wlX11_tellNumber, wcX11_tellNumber, wnX11, wpX11_tellNumber, by decide⟩
theorem cv_X11_428 : jCV RX11 428 iX11_tell 0 := ⟨jinT8 (List.mem_of_getElem? (i := 114) rfl) rfl, wiX11_tell, wlX11_tell, wcX11_tell, wnX11, wpX11_tell, by decide⟩
theorem fl_X11_431 : jFL RX11 431 11 12 0 := ⟨RX11, TX11, 105, rfl, by decide, by decide, jinT6 (List.mem_of_getElem? (i := 211) rfl) rfl, rfl⟩
theorem cv_X11_434 : jCV RX11 434 iX11_scanAll 0 := ⟨jinT8 (List.mem_of_getElem? (i := 51) rfl) rfl, wiX11_scanAll, wlX11_scanAll, wcX11_scanAll, wnX11, wpX11_scanAll, by decide⟩
theorem ff_X11_13 : jFfin 11 13 false := ⟨RX11, TX11, 105, rfl, rfl, fun _ => rfl⟩
theorem fz_X11_13 : ∀ x : Int, jfit (jty 11 (Int.toNat 13)) x := fun _ => trivial
theorem cv_X11_437 : jCV RX11 437 iX11_begin 1 := ⟨jinT8 (List.mem_of_getElem? (i := 106) rfl) rfl, wiX11_begin, wlX11_begin, wcX11_begin, wnX11, wpX11_begin, by decide⟩
theorem cv_X11_440 : jCV RX11 440 iX11_parses 0 := ⟨jinT8 (List.mem_of_getElem? (i := 110) rfl) rfl, wiX11_parses, wlX11_parses, wcX11_parses, wnX11, wpX11_parses, by decide⟩
theorem ff_X11_12 : jFfin 11 12 false := ⟨RX11, TX11, 105, rfl, rfl, fun _ => rfl⟩
theorem fz_X11_12 : ∀ x : Int, jfit (jty 11 (Int.toNat 12)) x := fun _ => trivial
theorem fl_X11_443 : jFL RX11 443 11 44 0 := ⟨RX11, TX11, 105, rfl, by decide, by decide, jinT7 (List.mem_of_getElem? (i := 3) rfl) rfl, rfl⟩
theorem ff_X11_44 : jFfin 11 44 false := ⟨RX11, TX11, 105, rfl, rfl, fun _ => rfl⟩
theorem fz_X11_44 : ∀ x : Int, jfit (jty 11 (Int.toNat 44)) x := fun _ => trivial
theorem fl_X11_446 : jFL RX11 446 11 50 0 := ⟨RX11, TX11, 105, rfl, by decide, by decide, jinT7 (List.mem_of_getElem? (i := 9) rfl) rfl, rfl⟩
theorem cs_X11_449 : jCS RX11 449 iX11_isIn 3 := ⟨jinT8 (List.mem_of_getElem? (i := 208) rfl) rfl, wtX11_isIn, wcX11_isIn, wnX11, wpX11_isIn, by decide⟩
theorem cv_X11_453 : jCV RX11 453 iX11_fact 5 := ⟨jinT8 (List.mem_of_getElem? (i := 211) rfl) rfl, wiX11_fact, wlX11_fact, wcX11_fact, wnX11, wpX11_fact, by decide⟩
theorem ff_X11_50 : jFfin 11 50 false := ⟨RX11, TX11, 105, rfl, rfl, fun _ => rfl⟩
theorem fz_X11_50 : ∀ x : Int, jfit (jty 11 (Int.toNat 50)) x := fun _ => trivial
theorem cv_X11_457 : jCV RX11 457 iX11_isChild 1 := ⟨jinT8 (List.mem_of_getElem? (i := 219) rfl) rfl, wiX11_isChild, wlX11_isChild, wcX11_isChild, wnX11, wpX11_isChild, by decide⟩
theorem cv_X11_460 : jCV RX11 460 iX11_lastHome 4 := ⟨jinT9 (List.mem_of_getElem? (i := 19) rfl) rfl, wiX11_lastHome, wlX11_lastHome, wcX11_lastHome, wnX11, wpX11_lastHome, by decide⟩
theorem cv_X11_464 : jCV RX11 464 iX11_isLive 2 := ⟨jinT9 (List.mem_of_getElem? (i := 23) rfl) rfl, wiX11_isLive, wlX11_isLive, wcX11_isLive, wnX11, wpX11_isLive, by decide⟩
theorem cv_X11_467 : jCV RX11 467 iX11_isKnown 1 := ⟨jinT9 (List.mem_of_getElem? (i := 7) rfl) rfl, wiX11_isKnown, wlX11_isKnown, wcX11_isKnown, wnX11, wpX11_isKnown, by decide⟩
theorem cv_X11_470 : jCV RX11 470 iX11_isKnownChild 2 := ⟨jinT9 (List.mem_of_getElem? (i := 11) rfl) rfl, wiX11_isKnownChild, wlX11_isKnownChild, wcX11_isKnownChild, wnX11, wpX11_isKnownChild, by decide⟩
theorem cv_X11_473 : jCV RX11 473 iX11_homeOf 3 := ⟨jinT9 (List.mem_of_getElem? (i := 15) rfl) rfl, wiX11_homeOf, wlX11_homeOf, wcX11_homeOf, wnX11, wpX11_homeOf, by decide⟩
theorem fl_X11_477 : jFL RX11 477 11 69 0 := ⟨RX11, TX11, 105, rfl, by decide, by decide, jinT7 (List.mem_of_getElem? (i := 28) rfl) rfl, rfl⟩
theorem cv_X11_480 : jCV RX11 480 iX11_force 1 := ⟨jinT9 (List.mem_of_getElem? (i := 39) rfl) rfl, wiX11_force, wlX11_force, wcX11_force, wnX11, wpX11_force, by decide⟩
theorem ff_X11_69 : jFfin 11 69 false := ⟨RX11, TX11, 105, rfl, rfl, fun _ => rfl⟩
theorem fz_X11_69 : ∀ x : Int, jfit (jty 11 (Int.toNat 69)) x := fun _ => trivial
theorem cv_X11_483 : jCV RX11 483 iX11_isOpen 2 := ⟨jinT9 (List.mem_of_getElem? (i := 44) rfl) rfl, wiX11_isOpen, wlX11_isOpen, wcX11_isOpen, wnX11, wpX11_isOpen, by decide⟩
theorem cv_X11_486 : jCV RX11 486 iX11_weightOf 2 := ⟨jinT9 (List.mem_of_getElem? (i := 48) rfl) rfl, wiX11_weightOf, wlX11_weightOf, wcX11_weightOf, wnX11, wpX11_weightOf, by decide⟩
theorem cv_X11_490 : jCV RX11 490 iX11_join 4 := ⟨jinT9 (List.mem_of_getElem? (i := 52) rfl) rfl, wiX11_join, wlX11_join, wcX11_join, wnX11, wpX11_join, by decide⟩
theorem cv_X11_494 : jCV RX11 494 iX11_isDay 2 := ⟨jinT9 (List.mem_of_getElem? (i := 35) rfl) rfl, wiX11_isDay, wlX11_isDay, wcX11_isDay, wnX11, wpX11_isDay, by decide⟩
theorem cv_X11_497 : jCV RX11 497 iX11_isDist 5 := ⟨jinT9 (List.mem_of_getElem? (i := 31) rfl) rfl, wiX11_isDist, wlX11_isDist, wcX11_isDist, wnX11, wpX11_isDist, by decide⟩
theorem cv_X11_501 : jCV RX11 501 iX11_lay 2 := ⟨jinT9 (List.mem_of_getElem? (i := 40) rfl) rfl, wiX11_lay, wlX11_lay, wcX11_lay, wnX11, wpX11_lay, by decide⟩
theorem cv_X11_504 : jCV RX11 504 iX11_leastOf 3 := ⟨jinT9 (List.mem_of_getElem? (i := 56) rfl) rfl, wiX11_leastOf, wlX11_leastOf, wcX11_leastOf, wnX11, wpX11_leastOf, by decide⟩
theorem cv_X11_507 : jCV RX11 507 iX11_onward 3 := ⟨jinT9 (List.mem_of_getElem? (i := 64) rfl) rfl, wiX11_onward, wlX11_onward, wcX11_onward, wnX11, wpX11_onward, by decide⟩
theorem cv_X11_510 : jCV RX11 510 iX11_sum 2 := ⟨jinT9 (List.mem_of_getElem? (i := 84) rfl) rfl, wiX11_sum, wlX11_sum, wcX11_sum, wnX11, wpX11_sum, by decide⟩
theorem cv_X11_513 : jCV RX11 513 iX11_isLit 1 := ⟨jinT9 (List.mem_of_getElem? (i := 80) rfl) rfl, wiX11_isLit, wlX11_isLit, wcX11_isLit, wnX11, wpX11_isLit, by decide⟩
theorem cv_X11_516 : jCV RX11 516 iX11_isHeld 2 := ⟨jinT9 (List.mem_of_getElem? (i := 76) rfl) rfl, wiX11_isHeld, wlX11_isHeld, wcX11_isHeld, wnX11, wpX11_isHeld, by decide⟩
theorem cv_X11_519 : jCV RX11 519 iX11_rightOf 3 := ⟨jinT9 (List.mem_of_getElem? (i := 72) rfl) rfl, wiX11_rightOf, wlX11_rightOf, wcX11_rightOf, wnX11, wpX11_rightOf, by decide⟩
theorem cv_X11_522 : jCV RX11 522 iX11_stopOf 3 := ⟨jinT9 (List.mem_of_getElem? (i := 96) rfl) rfl, wiX11_stopOf, wlX11_stopOf, wcX11_stopOf, wnX11, wpX11_stopOf, by decide⟩
theorem fl_X11_525 : jFL RX11 525 11 75 0 := ⟨RX11, TX11, 105, rfl, by decide, by decide, jinT7 (List.mem_of_getElem? (i := 34) rfl) rfl, rfl⟩
theorem ff_X11_75 : jFfin 11 75 false := ⟨RX11, TX11, 105, rfl, rfl, fun _ => rfl⟩
theorem fz_X11_75 : ∀ x : Int, jfit (jty 11 (Int.toNat 75)) x := fun _ => trivial
theorem cv_X11_528 : jCV RX11 528 iX11_isSchool 3 := ⟨jinT9 (List.mem_of_getElem? (i := 104) rfl) rfl, wiX11_isSchool, wlX11_isSchool, wcX11_isSchool, wnX11, wpX11_isSchool, by decide⟩
theorem cv_X11_531 : jCV RX11 531 iX11_riders 3 := ⟨jinT9 (List.mem_of_getElem? (i := 108) rfl) rfl, wiX11_riders, wlX11_riders, wcX11_riders, wnX11, wpX11_riders, by decide⟩
theorem cv_X11_534 : jCV RX11 534 iX11_placeOfStop 1 := ⟨jinT9 (List.mem_of_getElem? (i := 128) rfl) rfl, wiX11_placeOfStop, wlX11_placeOfStop, wcX11_placeOfStop, wnX11, wpX11_placeOfStop, by decide⟩
theorem cv_X11_537 : jCV RX11 537 iX11_placeOfSchool 1 := ⟨jinT9 (List.mem_of_getElem? (i := 132) rfl) rfl, wiX11_placeOfSchool, wlX11_placeOfSchool, wcX11_placeOfSchool, wnX11, wpX11_placeOfSchool, by decide⟩
theorem cv_X11_540 : jCV RX11 540 iX11_turn 2 := ⟨jinT9 (List.mem_of_getElem? (i := 140) rfl) rfl, wiX11_turn, wlX11_turn, wcX11_turn, wnX11, wpX11_turn, by decide⟩
theorem cv_X11_543 : jCV RX11 543 iX11_driven 1 := ⟨jinT9 (List.mem_of_getElem? (i := 124) rfl) rfl, wiX11_driven, wlX11_driven, wcX11_driven, wnX11, wpX11_driven, by decide⟩
theorem cv_X11_546 : jCV RX11 546 iX11_reorders 1 := ⟨jinT9 (List.mem_of_getElem? (i := 136) rfl) rfl, wiX11_reorders, wlX11_reorders, wcX11_reorders, wnX11, wpX11_reorders, by decide⟩
theorem cv_X11_549 : jCV RX11 549 iX11_laid 1 := ⟨jinT9 (List.mem_of_getElem? (i := 120) rfl) rfl, wiX11_laid, wlX11_laid, wcX11_laid, wnX11, wpX11_laid, by decide⟩
theorem cv_X11_552 : jCV RX11 552 iX11_judge 1 := ⟨jinT9 (List.mem_of_getElem? (i := 156) rfl) rfl, wiX11_judge, wlX11_judge, wcX11_judge, wnX11, wpX11_judge, by decide⟩
theorem cv_X11_555 : jCV RX11 555 iX11_isSet 4 := ⟨jinT9 (List.mem_of_getElem? (i := 116) rfl) rfl, wiX11_isSet, wlX11_isSet, wcX11_isSet, wnX11, wpX11_isSet, by decide⟩
theorem cv_X11_559 : jCV RX11 559 iX11_route 4 := ⟨jinT9 (List.mem_of_getElem? (i := 148) rfl) rfl, wiX11_route, wlX11_route, wcX11_route, wnX11, wpX11_route, by decide⟩
theorem cs_X11_562 : jCS RX11 562 iX11_manyOf 1 := ⟨jinT9 (List.mem_of_getElem? (i := 149) rfl) rfl, wtX11_manyOf, wcX11_manyOf, wnX11, wpX11_manyOf, by decide⟩
theorem cv_X11_565 : jCV RX11 565 iX11_ridden 0 := ⟨jinT9 (List.mem_of_getElem? (i := 176) rfl) rfl, wiX11_ridden, wlX11_ridden, wcX11_ridden, wnX11, wpX11_ridden, by decide⟩
theorem cs_X11_569 : jCS RX11 569 iX11_firstOf 1 := ⟨jinT9 (List.mem_of_getElem? (i := 180) rfl) rfl, wtX11_firstOf, wcX11_firstOf, wnX11, wpX11_firstOf, by decide⟩
theorem cv_X11_572 : jCV RX11 572 iX11_taxi 1 := ⟨jinT9 (List.mem_of_getElem? (i := 183) rfl) rfl, wiX11_taxi, wlX11_taxi, wcX11_taxi, wnX11, wpX11_taxi, by decide⟩
theorem cv_X11_575 : jCV RX11 575 iX11_offer 4 := ⟨jinT9 (List.mem_of_getElem? (i := 187) rfl) rfl, wiX11_offer, wlX11_offer, wcX11_offer, wnX11, wpX11_offer, by decide⟩
theorem fl_X11_578 : jFL RX11 578 11 86 0 := ⟨RX11, TX11, 105, rfl, by decide, by decide, jinT7 (List.mem_of_getElem? (i := 45) rfl) rfl, rfl⟩
theorem ff_X11_86 : jFfin 11 86 false := ⟨RX11, TX11, 105, rfl, rfl, fun _ => rfl⟩
theorem fz_X11_86 : ∀ x : Int, jfit (jty 11 (Int.toNat 86)) x := fun _ => trivial
theorem fl_X11_581 : jFL RX11 581 11 88 0 := ⟨RX11, TX11, 105, rfl, by decide, by decide, jinT7 (List.mem_of_getElem? (i := 47) rfl) rfl, rfl⟩
theorem ff_X11_88 : jFfin 11 88 false := ⟨RX11, TX11, 105, rfl, rfl, fun _ => rfl⟩
theorem fz_X11_88 : ∀ x : Int, jfit (jty 11 (Int.toNat 88)) x := fun _ => trivial
theorem cv_X11_584 : jCV RX11 584 iX11_chosen 1 := ⟨jinT9 (List.mem_of_getElem? (i := 191) rfl) rfl, wiX11_chosen, wlX11_chosen, wcX11_chosen, wnX11, wpX11_chosen, by decide⟩
theorem cv_X11_587 : jCV RX11 587 iX11_isBest 4 := ⟨jinT9 (List.mem_of_getElem? (i := 195) rfl) rfl, wiX11_isBest, wlX11_isBest, wcX11_isBest, wnX11, wpX11_isBest, by decide⟩
theorem cv_X11_590 : jCV RX11 590 iX11_allRoutes 3 := ⟨jinT9 (List.mem_of_getElem? (i := 168) rfl) rfl, wiX11_allRoutes, wlX11_allRoutes, wcX11_allRoutes, wnX11, wpX11_allRoutes, by decide⟩
theorem cv_X11_593 : jCV RX11 593 iX11_plans 0 := ⟨jinT9 (List.mem_of_getElem? (i := 172) rfl) rfl, wiX11_plans, wlX11_plans, wcX11_plans, wnX11, wpX11_plans, by decide⟩
theorem cv_X11_596 : jCV RX11 596 iX11_planOf 3 := ⟨jinT9 (List.mem_of_getElem? (i := 164) rfl) rfl, wiX11_planOf, wlX11_planOf, wcX11_planOf, wnX11, wpX11_planOf, by decide⟩
theorem fl_X11_599 : jFL RX11 599 11 89 0 := ⟨RX11, TX11, 105, rfl, by decide, by decide, jinT7 (List.mem_of_getElem? (i := 48) rfl) rfl, rfl⟩
theorem ff_X11_89 : jFfin 11 89 false := ⟨RX11, TX11, 105, rfl, rfl, fun _ => rfl⟩
theorem fz_X11_89 : ∀ x : Int, jfit (jty 11 (Int.toNat 89)) x := fun _ => trivial
theorem cv_X11_602 : jCV RX11 602 iX11_bellOf 1 := ⟨jinT9 (List.mem_of_getElem? (i := 235) rfl) rfl, wiX11_bellOf, wlX11_bellOf, wcX11_bellOf, wnX11, wpX11_bellOf, by decide⟩
theorem cv_X11_605 : jCV RX11 605 iX11_isBehind 2 := ⟨jinT9 (List.mem_of_getElem? (i := 231) rfl) rfl, wiX11_isBehind, wlX11_isBehind, wcX11_isBehind, wnX11, wpX11_isBehind, by decide⟩
theorem cv_X11_608 : jCV RX11 608 iX11_finds 1 := ⟨jinT9 (List.mem_of_getElem? (i := 227) rfl) rfl, wiX11_finds, wlX11_finds, wcX11_finds, wnX11, wpX11_finds, by decide⟩
theorem cv_X11_611 : jCV RX11 611 iX11_collects 2 := ⟨jinT9 (List.mem_of_getElem? (i := 219) rfl) rfl, wiX11_collects, wlX11_collects, wcX11_collects, wnX11, wpX11_collects, by decide⟩
theorem cv_X11_614 : jCV RX11 614 iX11_busesOf 0 := ⟨jinT9 (List.mem_of_getElem? (i := 223) rfl) rfl, wiX11_busesOf, wlX11_busesOf, wcX11_busesOf, wnX11, wpX11_busesOf, by decide⟩
theorem cs_X11_617 : jCS RX11 617 iX11_plain 1 := ⟨jinT10 (List.mem_of_getElem? (i := 7) rfl) rfl, wtX11_plain, wcX11_plain, wnX11, wpX11_plain, by decide⟩
theorem cv_X11_620 : jCV RX11 620 iX11_shiftedFleet 2 := ⟨jinT10 (List.mem_of_getElem? (i := 3) rfl) rfl, wiX11_shiftedFleet, wlX11_shiftedFleet, wcX11_shiftedFleet, wnX11, wpX11_shiftedFleet, by decide⟩
theorem fl_X11_623 : jFL RX11 623 11 52 0 := ⟨RX11, TX11, 105, rfl, by decide, by decide, jinT7 (List.mem_of_getElem? (i := 11) rfl) rfl, rfl⟩
theorem ff_X11_52 : jFfin 11 52 false := ⟨RX11, TX11, 105, rfl, rfl, fun _ => rfl⟩
theorem fz_X11_52 : ∀ x : Int, jfit (jty 11 (Int.toNat 52)) x := fun _ => trivial
theorem cv_X11_626 : jCV RX11 626 iX11_isBid 3 := ⟨jinT10 (List.mem_of_getElem? (i := 22) rfl) rfl, wiX11_isBid, wlX11_isBid, wcX11_isBid, wnX11, wpX11_isBid, by decide⟩
theorem cv_X11_629 : jCV RX11 629 iX11_award 2 := ⟨jinT10 (List.mem_of_getElem? (i := 30) rfl) rfl, wiX11_award, wlX11_award, wcX11_award, wnX11, wpX11_award, by decide⟩
theorem fl_X11_632 : jFL RX11 632 11 56 0 := ⟨RX11, TX11, 105, rfl, by decide, by decide, jinT7 (List.mem_of_getElem? (i := 15) rfl) rfl, rfl⟩
theorem ff_X11_56 : jFfin 11 56 false := ⟨RX11, TX11, 105, rfl, rfl, fun _ => rfl⟩
theorem fz_X11_56 : ∀ x : Int, jfit (jty 11 (Int.toNat 56)) x := fun _ => trivial
theorem cv_X11_635 : jCV RX11 635 iX11_mayDrive 3 := ⟨jinT10 (List.mem_of_getElem? (i := 51) rfl) rfl, wiX11_mayDrive, wlX11_mayDrive, wcX11_mayDrive, wnX11, wpX11_mayDrive, by decide⟩
theorem cv_X11_638 : jCV RX11 638 iX11_covers 1 := ⟨jinT10 (List.mem_of_getElem? (i := 47) rfl) rfl, wiX11_covers, wlX11_covers, wcX11_covers, wnX11, wpX11_covers, by decide⟩
theorem fl_X11_641 : jFL RX11 641 11 60 0 := ⟨RX11, TX11, 105, rfl, by decide, by decide, jinT7 (List.mem_of_getElem? (i := 19) rfl) rfl, rfl⟩
theorem ff_X11_60 : jFfin 11 60 false := ⟨RX11, TX11, 105, rfl, rfl, fun _ => rfl⟩
theorem fz_X11_60 : ∀ x : Int, jfit (jty 11 (Int.toNat 60)) x := fun _ => trivial
theorem cv_X11_644 : jCV RX11 644 iX11_snow 1 := ⟨jinT10 (List.mem_of_getElem? (i := 67) rfl) rfl, wiX11_snow, wlX11_snow, wcX11_snow, wnX11, wpX11_snow, by decide⟩
theorem fl_X11_647 : jFL RX11 647 11 102 0 := ⟨RX11, TX11, 105, rfl, by decide, by decide, jinT7 (List.mem_of_getElem? (i := 61) rfl) rfl, rfl⟩
theorem ff_X11_102 : jFfin 11 102 false := ⟨RX11, TX11, 105, rfl, rfl, fun _ => rfl⟩
theorem fz_X11_102 : ∀ x : Int, jfit (jty 11 (Int.toNat 102)) x := fun _ => trivial
theorem fl_X11_650 : jFL RX11 650 11 103 0 := ⟨RX11, TX11, 105, rfl, by decide, by decide, jinT7 (List.mem_of_getElem? (i := 62) rfl) rfl, rfl⟩
theorem ff_X11_103 : jFfin 11 103 false := ⟨RX11, TX11, 105, rfl, rfl, fun _ => rfl⟩
theorem fz_X11_103 : ∀ x : Int, jfit (jty 11 (Int.toNat 103)) x := fun _ => trivial
theorem fl_X11_653 : jFL RX11 653 11 104 0 := ⟨RX11, TX11, 105, rfl, by decide, by decide, jinT7 (List.mem_of_getElem? (i := 63) rfl) rfl, rfl⟩
theorem ff_X11_104 : jFfin 11 104 false := ⟨RX11, TX11, 105, rfl, rfl, fun _ => rfl⟩
theorem fz_X11_104 : ∀ x : Int, jfit (jty 11 (Int.toNat 104)) x := fun _ => trivial
theorem cv_X11_656 : jCV RX11 656 iX11_isLent 3 := ⟨jinT10 (List.mem_of_getElem? (i := 83) rfl) rfl, wiX11_isLent, wlX11_isLent, wcX11_isLent, wnX11, wpX11_isLent, by decide⟩
theorem cv_X11_659 : jCV RX11 659 iX11_lend 2 := ⟨jinT10 (List.mem_of_getElem? (i := 79) rfl) rfl, wiX11_lend, wlX11_lend, wcX11_lend, wnX11, wpX11_lend, by decide⟩
theorem cv_X11_662 : jCV RX11 662 iX11_countOf 1 := ⟨jinT10 (List.mem_of_getElem? (i := 95) rfl) rfl, wiX11_countOf, wlX11_countOf, wcX11_countOf, wnX11, wpX11_countOf, by decide⟩
theorem ci_L_9 : jCI RL 9 iX10_init 0 ∨ ∃ host, jCN RL host 9 iX10_init 0 := Or.inl ⟨jinT1 (List.mem_of_getElem? (i := 23) rfl) rfl, rfl, rfl, wiX10_init, wcX10_init, wnX10, wpX10_init, by decide⟩
theorem ci_L_12 : jCI RL 12 iX11_init 0 ∨ ∃ host, jCN RL host 12 iX11_init 0 := Or.inl ⟨jinT6 (List.mem_of_getElem? (i := 195) rfl) rfl, rfl, rfl, wiX11_init, wcX11_init, wnX11, wpX11_init, by decide⟩
theorem cv_L_13 : jCV RL 13 iX10_feed 5 := ⟨jinT3 (List.mem_of_getElem? (i := 170) rfl) rfl, wiX10_feed, wlX10_feed, wcX10_feed, wnX10, wpX10_feed, by decide⟩
theorem cv_L_17 : jCV RL 17 iX11_feed 5 := ⟨jinT8 (List.mem_of_getElem? (i := 35) rfl) rfl, wiX11_feed, wlX11_feed, wcX11_feed, wnX11, wpX11_feed, by decide⟩
theorem cv_L_18 : jCV RL 18 iX10_back 1 := ⟨jinT3 (List.mem_of_getElem? (i := 178) rfl) rfl, wiX10_back, wlX10_back, wcX10_back, wnX10, wpX10_back, by decide⟩
theorem cv_L_22 : jCV RL 22 iX11_back 1 := ⟨jinT8 (List.mem_of_getElem? (i := 43) rfl) rfl, wiX11_back, wlX11_back, wcX11_back, wnX11, wpX11_back, by decide⟩
theorem cv_L_23 : jCV RL 23 iX10_read 1 := ⟨jinT3 (List.mem_of_getElem? (i := 182) rfl) rfl, wiX10_read, wlX10_read, wcX10_read, wnX10, wpX10_read, by decide⟩
theorem cv_L_26 : jCV RL 26 iX11_read 1 := ⟨jinT8 (List.mem_of_getElem? (i := 47) rfl) rfl, wiX11_read, wlX11_read, wcX11_read, wnX11, wpX11_read, by decide⟩
theorem cv_L_27 : jCV RL 27 iX10_place 0 := ⟨jinT4 (List.mem_of_getElem? (i := 127) rfl) rfl, wiX10_place, wlX10_place, wcX10_place, wnX10, wpX10_place, by decide⟩
theorem cv_L_31 : jCV RL 31 iX11_place 0 := ⟨jinT8 (List.mem_of_getElem? (i := 200) rfl) rfl, wiX11_place, wlX11_place, wcX11_place, wnX11, wpX11_place, by decide⟩
theorem cv_L_32 : jCV RL 32 iX10_child 4 := ⟨jinT4 (List.mem_of_getElem? (i := 131) rfl) rfl, wiX10_child, wlX10_child, wcX10_child, wnX10, wpX10_child, by decide⟩
theorem cv_L_36 : jCV RL 36 iX11_child 4 := ⟨jinT8 (List.mem_of_getElem? (i := 204) rfl) rfl, wiX11_child, wlX11_child, wcX11_child, wnX11, wpX11_child, by decide⟩
theorem cv_L_37 : jCV RL 37 iX10_move 4 := ⟨jinT4 (List.mem_of_getElem? (i := 143) rfl) rfl, wiX10_move, wlX10_move, wcX10_move, wnX10, wpX10_move, by decide⟩
theorem cv_L_41 : jCV RL 41 iX11_move 4 := ⟨jinT8 (List.mem_of_getElem? (i := 215) rfl) rfl, wiX11_move, wlX11_move, wcX11_move, wnX11, wpX11_move, by decide⟩
theorem cv_L_42 : jCV RL 42 iX10_shut 3 := ⟨jinT4 (List.mem_of_getElem? (i := 148) rfl) rfl, wiX10_shut, wlX10_shut, wcX10_shut, wnX10, wpX10_shut, by decide⟩
theorem cv_L_46 : jCV RL 46 iX11_shut 3 := ⟨jinT8 (List.mem_of_getElem? (i := 223) rfl) rfl, wiX11_shut, wlX11_shut, wcX11_shut, wnX11, wpX11_shut, by decide⟩
theorem cv_L_47 : jCV RL 47 iX10_part 2 := ⟨jinT4 (List.mem_of_getElem? (i := 152) rfl) rfl, wiX10_part, wlX10_part, wcX10_part, wnX10, wpX10_part, by decide⟩
theorem cv_L_51 : jCV RL 51 iX11_part 2 := ⟨jinT8 (List.mem_of_getElem? (i := 227) rfl) rfl, wiX11_part, wlX11_part, wcX11_part, wnX11, wpX11_part, by decide⟩
theorem cv_L_52 : jCV RL 52 iX10_tap 4 := ⟨jinT4 (List.mem_of_getElem? (i := 156) rfl) rfl, wiX10_tap, wlX10_tap, wcX10_tap, wnX10, wpX10_tap, by decide⟩
theorem cv_L_55 : jCV RL 55 iX11_tap 4 := ⟨jinT8 (List.mem_of_getElem? (i := 231) rfl) rfl, wiX11_tap, wlX11_tap, wcX11_tap, wnX11, wpX11_tap, by decide⟩
theorem cv_L_56 : jCV RL 56 iX10_annul 1 := ⟨jinT4 (List.mem_of_getElem? (i := 160) rfl) rfl, wiX10_annul, wlX10_annul, wcX10_annul, wnX10, wpX10_annul, by decide⟩
theorem cv_L_59 : jCV RL 59 iX11_annul 1 := ⟨jinT8 (List.mem_of_getElem? (i := 235) rfl) rfl, wiX11_annul, wlX11_annul, wcX11_annul, wnX11, wpX11_annul, by decide⟩
theorem cv_L_60 : jCV RL 60 iX10_force 1 := ⟨jinT4 (List.mem_of_getElem? (i := 171) rfl) rfl, wiX10_force, wlX10_force, wcX10_force, wnX10, wpX10_force, by decide⟩
theorem cv_L_63 : jCV RL 63 iX11_force 1 := ⟨jinT8 (List.mem_of_getElem? (i := 239) rfl) rfl, wiX11_force, wlX11_force, wcX11_force, wnX11, wpX11_force, by decide⟩
theorem cv_L_64 : jCV RL 64 iX10_home 3 := ⟨jinT4 (List.mem_of_getElem? (i := 179) rfl) rfl, wiX10_home, wlX10_home, wcX10_home, wnX10, wpX10_home, by decide⟩
theorem cv_L_67 : jCV RL 67 iX11_home 3 := ⟨jinT9 (List.mem_of_getElem? (i := 3) rfl) rfl, wiX11_home, wlX11_home, wcX11_home, wnX11, wpX11_home, by decide⟩
theorem cv_L_68 : jCV RL 68 iX10_dist 5 := ⟨jinT4 (List.mem_of_getElem? (i := 207) rfl) rfl, wiX10_dist, wlX10_dist, wcX10_dist, wnX10, wpX10_dist, by decide⟩
theorem cv_L_71 : jCV RL 71 iX11_dist 5 := ⟨jinT9 (List.mem_of_getElem? (i := 27) rfl) rfl, wiX11_dist, wlX11_dist, wcX11_dist, wnX11, wpX11_dist, by decide⟩
theorem cv_L_72 : jCV RL 72 iX10_row 6 := ⟨jinT5 (List.mem_of_getElem? (i := 0) rfl) rfl, wiX10_row, wlX10_row, wcX10_row, wnX10, wpX10_row, by decide⟩
theorem cv_L_76 : jCV RL 76 iX11_row 6 := ⟨jinT9 (List.mem_of_getElem? (i := 60) rfl) rfl, wiX11_row, wlX11_row, wcX11_row, wnX11, wpX11_row, by decide⟩
theorem cv_L_77 : jCV RL 77 iX10_right 3 := ⟨jinT5 (List.mem_of_getElem? (i := 17) rfl) rfl, wiX10_right, wlX10_right, wcX10_right, wnX10, wpX10_right, by decide⟩
theorem cv_L_80 : jCV RL 80 iX11_right 3 := ⟨jinT9 (List.mem_of_getElem? (i := 68) rfl) rfl, wiX11_right, wlX11_right, wcX11_right, wnX11, wpX11_right, by decide⟩
theorem cv_L_81 : jCV RL 81 iX10_altered 3 := ⟨jinT5 (List.mem_of_getElem? (i := 44) rfl) rfl, wiX10_altered, wlX10_altered, wcX10_altered, wnX10, wpX10_altered, by decide⟩
theorem cv_L_84 : jCV RL 84 iX11_altered 3 := ⟨jinT9 (List.mem_of_getElem? (i := 88) rfl) rfl, wiX11_altered, wlX11_altered, wcX11_altered, wnX11, wpX11_altered, by decide⟩
theorem cv_L_85 : jCV RL 85 iX10_stop 3 := ⟨jinT5 (List.mem_of_getElem? (i := 63) rfl) rfl, wiX10_stop, wlX10_stop, wcX10_stop, wnX10, wpX10_stop, by decide⟩
theorem cv_L_88 : jCV RL 88 iX11_stop 3 := ⟨jinT9 (List.mem_of_getElem? (i := 92) rfl) rfl, wiX11_stop, wlX11_stop, wcX11_stop, wnX11, wpX11_stop, by decide⟩
theorem cv_L_89 : jCV RL 89 iX10_load 4 := ⟨jinT5 (List.mem_of_getElem? (i := 67) rfl) rfl, wiX10_load, wlX10_load, wcX10_load, wnX10, wpX10_load, by decide⟩
theorem cv_L_92 : jCV RL 92 iX11_load 4 := ⟨jinT9 (List.mem_of_getElem? (i := 100) rfl) rfl, wiX11_load, wlX11_load, wcX11_load, wnX11, wpX11_load, by decide⟩
theorem cv_L_93 : jCV RL 93 iX10_route 4 := ⟨jinT5 (List.mem_of_getElem? (i := 141) rfl) rfl, wiX10_route, wlX10_route, wcX10_route, wnX10, wpX10_route, by decide⟩
theorem cv_L_96 : jCV RL 96 iX11_route 4 := ⟨jinT9 (List.mem_of_getElem? (i := 112) rfl) rfl, wiX11_route, wlX11_route, wcX11_route, wnX11, wpX11_route, by decide⟩
theorem cv_L_97 : jCV RL 97 iX10_routeStop 5 := ⟨jinT5 (List.mem_of_getElem? (i := 149) rfl) rfl, wiX10_routeStop, wlX10_routeStop, wcX10_routeStop, wnX10, wpX10_routeStop, by decide⟩
theorem cv_L_100 : jCV RL 100 iX11_routeStop 5 := ⟨jinT9 (List.mem_of_getElem? (i := 144) rfl) rfl, wiX11_routeStop, wlX11_routeStop, wcX11_routeStop, wnX11, wpX11_routeStop, by decide⟩
theorem cv_L_101 : jCV RL 101 iX10_good 4 := ⟨jinT5 (List.mem_of_getElem? (i := 162) rfl) rfl, wiX10_good, wlX10_good, wcX10_good, wnX10, wpX10_good, by decide⟩
theorem cv_L_104 : jCV RL 104 iX11_good 4 := ⟨jinT9 (List.mem_of_getElem? (i := 152) rfl) rfl, wiX11_good, wlX11_good, wcX11_good, wnX11, wpX11_good, by decide⟩
theorem cv_L_105 : jCV RL 105 iX10_pay 3 := ⟨jinT5 (List.mem_of_getElem? (i := 166) rfl) rfl, wiX10_pay, wlX10_pay, wcX10_pay, wnX10, wpX10_pay, by decide⟩
theorem cv_L_108 : jCV RL 108 iX11_pay 3 := ⟨jinT9 (List.mem_of_getElem? (i := 160) rfl) rfl, wiX11_pay, wlX11_pay, wcX11_pay, wnX11, wpX11_pay, by decide⟩
theorem cv_L_109 : jCV RL 109 iX10_routes 3 := ⟨jinT5 (List.mem_of_getElem? (i := 175) rfl) rfl, wiX10_routes, wlX10_routes, wcX10_routes, wnX10, wpX10_routes, by decide⟩
theorem cv_L_112 : jCV RL 112 iX11_routes 3 := ⟨jinT9 (List.mem_of_getElem? (i := 199) rfl) rfl, wiX11_routes, wlX11_routes, wcX11_routes, wnX11, wpX11_routes, by decide⟩
theorem cv_L_113 : jCV RL 113 iX10_routeSet 4 := ⟨jinT5 (List.mem_of_getElem? (i := 179) rfl) rfl, wiX10_routeSet, wlX10_routeSet, wcX10_routeSet, wnX10, wpX10_routeSet, by decide⟩
theorem cv_L_116 : jCV RL 116 iX11_routeSet 4 := ⟨jinT9 (List.mem_of_getElem? (i := 203) rfl) rfl, wiX11_routeSet, wlX11_routeSet, wcX11_routeSet, wnX11, wpX11_routeSet, by decide⟩
theorem cv_L_117 : jCV RL 117 iX10_taxis 3 := ⟨jinT5 (List.mem_of_getElem? (i := 183) rfl) rfl, wiX10_taxis, wlX10_taxis, wcX10_taxis, wnX10, wpX10_taxis, by decide⟩
theorem cv_L_120 : jCV RL 120 iX11_taxis 3 := ⟨jinT9 (List.mem_of_getElem? (i := 207) rfl) rfl, wiX11_taxis, wlX11_taxis, wcX11_taxis, wnX11, wpX11_taxis, by decide⟩
theorem cv_L_121 : jCV RL 121 iX10_fewest 3 := ⟨jinT5 (List.mem_of_getElem? (i := 187) rfl) rfl, wiX10_fewest, wlX10_fewest, wcX10_fewest, wnX10, wpX10_fewest, by decide⟩
theorem cv_L_124 : jCV RL 124 iX11_fewest 3 := ⟨jinT9 (List.mem_of_getElem? (i := 211) rfl) rfl, wiX11_fewest, wlX11_fewest, wcX11_fewest, wnX11, wpX11_fewest, by decide⟩
theorem cv_L_125 : jCV RL 125 iX10_fleet 2 := ⟨jinT5 (List.mem_of_getElem? (i := 195) rfl) rfl, wiX10_fleet, wlX10_fleet, wcX10_fleet, wnX10, wpX10_fleet, by decide⟩
theorem cv_L_128 : jCV RL 128 iX11_fleet 2 := ⟨jinT9 (List.mem_of_getElem? (i := 215) rfl) rfl, wiX11_fleet, wlX11_fleet, wcX11_fleet, wnX11, wpX11_fleet, by decide⟩
theorem cv_L_129 : jCV RL 129 iX10_shifted 2 := ⟨jinT6 (List.mem_of_getElem? (i := 5) rfl) rfl, wiX10_shifted, wlX10_shifted, wcX10_shifted, wnX10, wpX10_shifted, by decide⟩
theorem cv_L_132 : jCV RL 132 iX11_shifted 2 := ⟨jinT9 (List.mem_of_getElem? (i := 239) rfl) rfl, wiX11_shifted, wlX11_shifted, wcX11_shifted, wnX11, wpX11_shifted, by decide⟩
theorem cv_L_133 : jCV RL 133 iX10_shift 3 := ⟨jinT6 (List.mem_of_getElem? (i := 28) rfl) rfl, wiX10_shift, wlX10_shift, wcX10_shift, wnX10, wpX10_shift, by decide⟩
theorem cv_L_136 : jCV RL 136 iX11_shift 3 := ⟨jinT10 (List.mem_of_getElem? (i := 10) rfl) rfl, wiX11_shift, wlX11_shift, wcX11_shift, wnX11, wpX11_shift, by decide⟩
theorem cv_L_137 : jCV RL 137 iX10_bid 3 := ⟨jinT6 (List.mem_of_getElem? (i := 32) rfl) rfl, wiX10_bid, wlX10_bid, wcX10_bid, wnX10, wpX10_bid, by decide⟩
theorem cv_L_140 : jCV RL 140 iX11_bid 3 := ⟨jinT10 (List.mem_of_getElem? (i := 14) rfl) rfl, wiX11_bid, wlX11_bid, wcX11_bid, wnX11, wpX11_bid, by decide⟩
theorem cv_L_141 : jCV RL 141 iX10_award 2 := ⟨jinT6 (List.mem_of_getElem? (i := 40) rfl) rfl, wiX10_award, wlX10_award, wcX10_award, wnX10, wpX10_award, by decide⟩
theorem cv_L_144 : jCV RL 144 iX11_award 2 := ⟨jinT10 (List.mem_of_getElem? (i := 18) rfl) rfl, wiX11_award, wlX11_award, wcX11_award, wnX11, wpX11_award, by decide⟩
theorem cv_L_145 : jCV RL 145 iX10_awarded 3 := ⟨jinT6 (List.mem_of_getElem? (i := 67) rfl) rfl, wiX10_awarded, wlX10_awarded, wcX10_awarded, wnX10, wpX10_awarded, by decide⟩
theorem cv_L_148 : jCV RL 148 iX11_awarded 3 := ⟨jinT10 (List.mem_of_getElem? (i := 26) rfl) rfl, wiX11_awarded, wlX11_awarded, wcX11_awarded, wnX11, wpX11_awarded, by decide⟩
theorem cv_L_149 : jCV RL 149 iX10_driver 1 := ⟨jinT6 (List.mem_of_getElem? (i := 75) rfl) rfl, wiX10_driver, wlX10_driver, wcX10_driver, wnX10, wpX10_driver, by decide⟩
theorem cv_L_152 : jCV RL 152 iX11_driver 1 := ⟨jinT10 (List.mem_of_getElem? (i := 31) rfl) rfl, wiX11_driver, wlX11_driver, wcX11_driver, wnX11, wpX11_driver, by decide⟩
theorem cv_L_153 : jCV RL 153 iX10_leave 2 := ⟨jinT6 (List.mem_of_getElem? (i := 83) rfl) rfl, wiX10_leave, wlX10_leave, wcX10_leave, wnX10, wpX10_leave, by decide⟩
theorem cv_L_157 : jCV RL 157 iX11_leave 2 := ⟨jinT10 (List.mem_of_getElem? (i := 35) rfl) rfl, wiX11_leave, wlX11_leave, wcX11_leave, wnX11, wpX11_leave, by decide⟩
theorem cv_L_158 : jCV RL 158 iX10_weigh 2 := ⟨jinT6 (List.mem_of_getElem? (i := 91) rfl) rfl, wiX10_weigh, wlX10_weigh, wcX10_weigh, wnX10, wpX10_weigh, by decide⟩
theorem cv_L_162 : jCV RL 162 iX11_weigh 2 := ⟨jinT10 (List.mem_of_getElem? (i := 39) rfl) rfl, wiX11_weigh, wlX11_weigh, wcX11_weigh, wnX11, wpX11_weigh, by decide⟩
theorem cv_L_163 : jCV RL 163 iX10_cover 1 := ⟨jinT6 (List.mem_of_getElem? (i := 99) rfl) rfl, wiX10_cover, wlX10_cover, wcX10_cover, wnX10, wpX10_cover, by decide⟩
theorem cv_L_166 : jCV RL 166 iX11_cover 1 := ⟨jinT10 (List.mem_of_getElem? (i := 43) rfl) rfl, wiX11_cover, wlX11_cover, wcX11_cover, wnX11, wpX11_cover, by decide⟩
theorem cv_L_167 : jCV RL 167 iX10_drives 2 := ⟨jinT6 (List.mem_of_getElem? (i := 129) rfl) rfl, wiX10_drives, wlX10_drives, wcX10_drives, wnX10, wpX10_drives, by decide⟩
theorem cv_L_170 : jCV RL 170 iX11_drives 2 := ⟨jinT10 (List.mem_of_getElem? (i := 55) rfl) rfl, wiX11_drives, wlX11_drives, wcX11_drives, wnX11, wpX11_drives, by decide⟩
theorem cv_L_171 : jCV RL 171 iX10_call 3 := ⟨jinT6 (List.mem_of_getElem? (i := 133) rfl) rfl, wiX10_call, wlX10_call, wcX10_call, wnX10, wpX10_call, by decide⟩
theorem cv_L_174 : jCV RL 174 iX11_call 3 := ⟨jinT10 (List.mem_of_getElem? (i := 59) rfl) rfl, wiX11_call, wlX11_call, wcX11_call, wnX11, wpX11_call, by decide⟩
theorem cv_L_175 : jCV RL 175 iX10_told 2 := ⟨jinT6 (List.mem_of_getElem? (i := 141) rfl) rfl, wiX10_told, wlX10_told, wcX10_told, wnX10, wpX10_told, by decide⟩
theorem cv_L_178 : jCV RL 178 iX11_told 2 := ⟨jinT10 (List.mem_of_getElem? (i := 63) rfl) rfl, wiX11_told, wlX11_told, wcX11_told, wnX11, wpX11_told, by decide⟩
theorem cv_L_179 : jCV RL 179 iX10_soonest 0 := ⟨jinT6 (List.mem_of_getElem? (i := 151) rfl) rfl, wiX10_soonest, wlX10_soonest, wcX10_soonest, wnX10, wpX10_soonest, by decide⟩
theorem cv_L_182 : jCV RL 182 iX11_soonest 0 := ⟨jinT10 (List.mem_of_getElem? (i := 71) rfl) rfl, wiX11_soonest, wlX11_soonest, wcX11_soonest, wnX11, wpX11_soonest, by decide⟩
theorem cv_L_183 : jCV RL 183 iX10_lent 1 := ⟨jinT6 (List.mem_of_getElem? (i := 163) rfl) rfl, wiX10_lent, wlX10_lent, wcX10_lent, wnX10, wpX10_lent, by decide⟩
theorem cv_L_186 : jCV RL 186 iX11_lent 1 := ⟨jinT10 (List.mem_of_getElem? (i := 75) rfl) rfl, wiX11_lent, wlX11_lent, wcX11_lent, wnX11, wpX11_lent, by decide⟩
theorem cv_L_187 : jCV RL 187 iX10_lentAt 3 := ⟨jinT6 (List.mem_of_getElem? (i := 181) rfl) rfl, wiX10_lentAt, wlX10_lentAt, wcX10_lentAt, wnX10, wpX10_lentAt, by decide⟩
theorem cv_L_191 : jCV RL 191 iX11_lentAt 3 := ⟨jinT10 (List.mem_of_getElem? (i := 87) rfl) rfl, wiX11_lentAt, wlX11_lentAt, wcX11_lentAt, wnX11, wpX11_lentAt, by decide⟩
theorem cv_L_192 : jCV RL 192 iX10_count 1 := ⟨jinT6 (List.mem_of_getElem? (i := 185) rfl) rfl, wiX10_count, wlX10_count, wcX10_count, wnX10, wpX10_count, by decide⟩
theorem cv_L_195 : jCV RL 195 iX11_count 1 := ⟨jinT10 (List.mem_of_getElem? (i := 91) rfl) rfl, wiX11_count, wlX11_count, wcX11_count, wnX11, wpX11_count, by decide⟩
