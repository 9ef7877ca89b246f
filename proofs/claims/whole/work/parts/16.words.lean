/-! words of constants, of Math, of copies; switches (written by a program) -/
theorem ld_X10_150 : Cond.constant RX10 150 (Int32.ofInt 268435456) ∈ jTbl := jinT4 (List.mem_of_getElem? (i := 239) rfl) rfl
theorem ld_X2_106 : Cond.constant RX2 106 (Int32.ofInt 268435456) ∈ jTbl := jinT5 (List.mem_of_getElem? (i := 219) rfl) rfl
theorem ld_X3_71 : Cond.constant RX3 71 (Int32.ofInt 268435456) ∈ jTbl := jinT5 (List.mem_of_getElem? (i := 101) rfl) rfl
theorem ld_X3_172 : Cond.constant RX3 172 (Int32.ofInt 2147483647) ∈ jTbl := jinT5 (List.mem_of_getElem? (i := 119) rfl) rfl
theorem ld_X5_31 : Cond.constant RX5 31 (Int32.ofInt 268435456) ∈ jTbl := jinT6 (List.mem_of_getElem? (i := 149) rfl) rfl
theorem ld_X7_52 : Cond.constant RX7 52 (Int32.ofInt 268435456) ∈ jTbl := jinT6 (List.mem_of_getElem? (i := 66) rfl) rfl
theorem ld_X9_105 : Cond.constant RX9 105 (Int32.ofInt 268435456) ∈ jTbl := jinT4 (List.mem_of_getElem? (i := 234) rfl) rfl
theorem ld_J6_265 : Cond.constant RJ6 265 (Int32.ofInt 1431655765) ∈ jTbl := jinT5 (List.mem_of_getElem? (i := 60) rfl) rfl
theorem ld_J6_266 : Cond.constant RJ6 266 (Int32.ofInt 858993459) ∈ jTbl := jinT5 (List.mem_of_getElem? (i := 61) rfl) rfl
theorem ld_J6_267 : Cond.constant RJ6 267 (Int32.ofInt 252645135) ∈ jTbl := jinT5 (List.mem_of_getElem? (i := 62) rfl) rfl
theorem ld2_X6_78 : Cond.constantLong RX6 78 (Int64.ofInt 10) ∈ jTbl := jinT4 (List.mem_of_getElem? (i := 0) rfl) rfl
theorem ld2_X6_80 : Cond.constantLong RX6 80 (Int64.ofInt 48) ∈ jTbl := jinT4 (List.mem_of_getElem? (i := 1) rfl) rfl
theorem ld2_X6_82 : Cond.constantLong RX6 82 (Int64.ofInt 32) ∈ jTbl := jinT1 (List.mem_of_getElem? (i := 85) rfl) rfl
theorem ld2_X6_84 : Cond.constantLong RX6 84 (Int64.ofInt 97) ∈ jTbl := jinT1 (List.mem_of_getElem? (i := 86) rfl) rfl
theorem ld2_X11_264 : Cond.constantLong RX11 264 (Int64.ofInt 8740067) ∈ jTbl := jinT8 (List.mem_of_getElem? (i := 72) rfl) rfl
theorem ld2_X11_266 : Cond.constantLong RX11 266 (Int64.ofInt 16819) ∈ jTbl := jinT8 (List.mem_of_getElem? (i := 73) rfl) rfl
theorem ld2_X11_268 : Cond.constantLong RX11 268 (Int64.ofInt 1489) ∈ jTbl := jinT8 (List.mem_of_getElem? (i := 74) rfl) rfl
theorem ld2_X11_270 : Cond.constantLong RX11 270 (Int64.ofInt 274392372) ∈ jTbl := jinT8 (List.mem_of_getElem? (i := 75) rfl) rfl
theorem ld2_X11_272 : Cond.constantLong RX11 272 (Int64.ofInt 47) ∈ jTbl := jinT8 (List.mem_of_getElem? (i := 76) rfl) rfl
theorem ld2_X11_274 : Cond.constantLong RX11 274 (Int64.ofInt 388978) ∈ jTbl := jinT8 (List.mem_of_getElem? (i := 77) rfl) rfl
theorem ld2_X11_276 : Cond.constantLong RX11 276 (Int64.ofInt 9748424) ∈ jTbl := jinT8 (List.mem_of_getElem? (i := 78) rfl) rfl
theorem ld2_X11_278 : Cond.constantLong RX11 278 (Int64.ofInt 249) ∈ jTbl := jinT8 (List.mem_of_getElem? (i := 79) rfl) rfl
theorem ld2_X11_280 : Cond.constantLong RX11 280 (Int64.ofInt 10197082) ∈ jTbl := jinT8 (List.mem_of_getElem? (i := 80) rfl) rfl
theorem ld2_X11_282 : Cond.constantLong RX11 282 (Int64.ofInt 360968) ∈ jTbl := jinT8 (List.mem_of_getElem? (i := 81) rfl) rfl
theorem ld2_X11_284 : Cond.constantLong RX11 284 (Int64.ofInt 453773) ∈ jTbl := jinT8 (List.mem_of_getElem? (i := 82) rfl) rfl
theorem ld2_X11_286 : Cond.constantLong RX11 286 (Int64.ofInt 395046) ∈ jTbl := jinT8 (List.mem_of_getElem? (i := 83) rfl) rfl
theorem ld2_X11_288 : Cond.constantLong RX11 288 (Int64.ofInt 7867157) ∈ jTbl := jinT8 (List.mem_of_getElem? (i := 84) rfl) rfl
theorem ld2_X11_290 : Cond.constantLong RX11 290 (Int64.ofInt 2044) ∈ jTbl := jinT8 (List.mem_of_getElem? (i := 85) rfl) rfl
theorem ld2_X11_292 : Cond.constantLong RX11 292 (Int64.ofInt 423) ∈ jTbl := jinT8 (List.mem_of_getElem? (i := 86) rfl) rfl
theorem ld2_X11_294 : Cond.constantLong RX11 294 (Int64.ofInt 1111) ∈ jTbl := jinT8 (List.mem_of_getElem? (i := 87) rfl) rfl
theorem ld2_X11_296 : Cond.constantLong RX11 296 (Int64.ofInt 10631) ∈ jTbl := jinT8 (List.mem_of_getElem? (i := 88) rfl) rfl
theorem ld2_X11_298 : Cond.constantLong RX11 298 (Int64.ofInt 1831780) ∈ jTbl := jinT8 (List.mem_of_getElem? (i := 89) rfl) rfl
theorem ld2_X11_300 : Cond.constantLong RX11 300 (Int64.ofInt 7542361) ∈ jTbl := jinT8 (List.mem_of_getElem? (i := 90) rfl) rfl
theorem ld2_X11_302 : Cond.constantLong RX11 302 (Int64.ofInt 4419) ∈ jTbl := jinT8 (List.mem_of_getElem? (i := 91) rfl) rfl
theorem ld2_X11_304 : Cond.constantLong RX11 304 (Int64.ofInt 374873) ∈ jTbl := jinT8 (List.mem_of_getElem? (i := 92) rfl) rfl
theorem ld2_X11_306 : Cond.constantLong RX11 306 (Int64.ofInt 2968) ∈ jTbl := jinT8 (List.mem_of_getElem? (i := 93) rfl) rfl
theorem ld2_X11_312 : Cond.constantLong RX11 312 (Int64.ofInt 27) ∈ jTbl := jinT8 (List.mem_of_getElem? (i := 67) rfl) rfl
theorem ld2_X11_314 : Cond.constantLong RX11 314 (Int64.ofInt 96) ∈ jTbl := jinT8 (List.mem_of_getElem? (i := 68) rfl) rfl
theorem ml_X0_59 : jMl RX0 59 Lib.Math.min.name Lib.Math.min.code 2 := ⟨jinT6 (List.mem_of_getElem? (i := 116) rfl) rfl, jinT4 (List.mem_of_getElem? (i := 169) rfl) rfl, jinT1 (List.mem_of_getElem? (i := 19) rfl) rfl, jinT4 (List.mem_of_getElem? (i := 170) rfl) rfl⟩
theorem ml_X1_44 : jMl RX1 44 Lib.Math.min.name Lib.Math.min.code 2 := ⟨jinT4 (List.mem_of_getElem? (i := 168) rfl) rfl, jinT4 (List.mem_of_getElem? (i := 169) rfl) rfl, jinT1 (List.mem_of_getElem? (i := 19) rfl) rfl, jinT4 (List.mem_of_getElem? (i := 170) rfl) rfl⟩
theorem ac_X2_69 : jCp RX2 69 := ⟨jinT5 (List.mem_of_getElem? (i := 207) rfl) rfl, jinT3 (List.mem_of_getElem? (i := 202) rfl) rfl, jinT3 (List.mem_of_getElem? (i := 201) rfl) rfl, jinT1 (List.mem_of_getElem? (i := 18) rfl) rfl⟩
theorem ml_X2_122 : jMl RX2 122 Lib.Math.abs.name Lib.Math.abs.code 1 := ⟨jinT6 (List.mem_of_getElem? (i := 17) rfl) rfl, jinT6 (List.mem_of_getElem? (i := 18) rfl) rfl, jinT1 (List.mem_of_getElem? (i := 19) rfl) rfl, jinT6 (List.mem_of_getElem? (i := 19) rfl) rfl⟩
theorem ml_X3_160 : jMl RX3 160 Lib.Math.min.name Lib.Math.min.code 2 := ⟨jinT5 (List.mem_of_getElem? (i := 110) rfl) rfl, jinT4 (List.mem_of_getElem? (i := 169) rfl) rfl, jinT1 (List.mem_of_getElem? (i := 19) rfl) rfl, jinT4 (List.mem_of_getElem? (i := 170) rfl) rfl⟩
theorem ml_X5_42 : jMl RX5 42 Lib.Math.max.name Lib.Math.max.code 2 := ⟨jinT6 (List.mem_of_getElem? (i := 160) rfl) rfl, jinT6 (List.mem_of_getElem? (i := 161) rfl) rfl, jinT1 (List.mem_of_getElem? (i := 19) rfl) rfl, jinT6 (List.mem_of_getElem? (i := 162) rfl) rfl⟩
theorem gs_41 : Cond.fieldLink RX8 41 "SchoolRides$Text" "UNTOLD" "[I" ∈ jTbl := jinT1 (List.mem_of_getElem? (i := 223) rfl) rfl
theorem ac_X8_72 : jCp RX8 72 := ⟨jinT3 (List.mem_of_getElem? (i := 200) rfl) rfl, jinT3 (List.mem_of_getElem? (i := 202) rfl) rfl, jinT3 (List.mem_of_getElem? (i := 201) rfl) rfl, jinT1 (List.mem_of_getElem? (i := 18) rfl) rfl⟩
theorem ml_X10_363 : jMl RX10 363 Lib.Math.abs.name Lib.Math.abs.code 1 := ⟨jinT6 (List.mem_of_getElem? (i := 180) rfl) rfl, jinT6 (List.mem_of_getElem? (i := 18) rfl) rfl, jinT1 (List.mem_of_getElem? (i := 19) rfl) rfl, jinT6 (List.mem_of_getElem? (i := 19) rfl) rfl⟩
theorem sw_0_6 {P : Prop} {x : Int} (k0 : x = 0 → P) (k1 : x = 1 → P) (k2 : x = 2 → P) (k3 : x = 3 → P) (k4 : x = 4 → P) (k5 : x = 5 → P) (k6 : x = 6 → P) (kd : x < 0 ∨ 6 < x → P) : P := by
  by_cases h : x < 0 ∨ 6 < x
  · exact kd h
  · have : x = 0 ∨ x = 1 ∨ x = 2 ∨ x = 3 ∨ x = 4 ∨ x = 5 ∨ x = 6 := by omega
    rcases this with h | h | h | h | h | h | h
    · exact k0 h
    · exact k1 h
    · exact k2 h
    · exact k3 h
    · exact k4 h
    · exact k5 h
    · exact k6 h
theorem sw_0_10 {P : Prop} {x : Int} (k0 : x = 0 → P) (k1 : x = 1 → P) (k2 : x = 2 → P) (k3 : x = 3 → P) (k4 : x = 4 → P) (k5 : x = 5 → P) (k6 : x = 6 → P) (k7 : x = 7 → P) (k8 : x = 8 → P) (k9 : x = 9 → P) (k10 : x = 10 → P) (kd : x < 0 ∨ 10 < x → P) : P := by
  by_cases h : x < 0 ∨ 10 < x
  · exact kd h
  · have : x = 0 ∨ x = 1 ∨ x = 2 ∨ x = 3 ∨ x = 4 ∨ x = 5 ∨ x = 6 ∨ x = 7 ∨ x = 8 ∨ x = 9 ∨ x = 10 := by omega
    rcases this with h | h | h | h | h | h | h | h | h | h | h
    · exact k0 h
    · exact k1 h
    · exact k2 h
    · exact k3 h
    · exact k4 h
    · exact k5 h
    · exact k6 h
    · exact k7 h
    · exact k8 h
    · exact k9 h
    · exact k10 h
theorem sw_1_4 {P : Prop} {x : Int} (k0 : x = 1 → P) (k1 : x = 2 → P) (k2 : x = 3 → P) (k3 : x = 4 → P) (kd : x < 1 ∨ 4 < x → P) : P := by
  by_cases h : x < 1 ∨ 4 < x
  · exact kd h
  · have : x = 1 ∨ x = 2 ∨ x = 3 ∨ x = 4 := by omega
    rcases this with h | h | h | h
    · exact k0 h
    · exact k1 h
    · exact k2 h
    · exact k3 h
theorem sw_14_32 {P : Prop} {x : Int} (k0 : x = 14 → P) (k1 : x = 15 → P) (k2 : x = 16 → P) (k3 : x = 17 → P) (k4 : x = 18 → P) (k5 : x = 19 → P) (k6 : x = 20 → P) (k7 : x = 21 → P) (k8 : x = 22 → P) (k9 : x = 23 → P) (k10 : x = 24 → P) (k11 : x = 25 → P) (k12 : x = 26 → P) (k13 : x = 27 → P) (k14 : x = 28 → P) (k15 : x = 29 → P) (k16 : x = 30 → P) (k17 : x = 31 → P) (k18 : x = 32 → P) (kd : x < 14 ∨ 32 < x → P) : P := by
  by_cases h : x < 14 ∨ 32 < x
  · exact kd h
  · have : x = 14 ∨ x = 15 ∨ x = 16 ∨ x = 17 ∨ x = 18 ∨ x = 19 ∨ x = 20 ∨ x = 21 ∨ x = 22 ∨ x = 23 ∨ x = 24 ∨ x = 25 ∨ x = 26 ∨ x = 27 ∨ x = 28 ∨ x = 29 ∨ x = 30 ∨ x = 31 ∨ x = 32 := by omega
    rcases this with h | h | h | h | h | h | h | h | h | h | h | h | h | h | h | h | h | h | h
    · exact k0 h
    · exact k1 h
    · exact k2 h
    · exact k3 h
    · exact k4 h
    · exact k5 h
    · exact k6 h
    · exact k7 h
    · exact k8 h
    · exact k9 h
    · exact k10 h
    · exact k11 h
    · exact k12 h
    · exact k13 h
    · exact k14 h
    · exact k15 h
    · exact k16 h
    · exact k17 h
    · exact k18 h
theorem sw_15_31 {P : Prop} {x : Int} (k0 : x = 15 → P) (k1 : x = 16 → P) (k2 : x = 17 → P) (k3 : x = 18 → P) (k4 : x = 19 → P) (k5 : x = 20 → P) (k6 : x = 21 → P) (k7 : x = 22 → P) (k8 : x = 23 → P) (k9 : x = 24 → P) (k10 : x = 25 → P) (k11 : x = 26 → P) (k12 : x = 27 → P) (k13 : x = 28 → P) (k14 : x = 29 → P) (k15 : x = 30 → P) (k16 : x = 31 → P) (kd : x < 15 ∨ 31 < x → P) : P := by
  by_cases h : x < 15 ∨ 31 < x
  · exact kd h
  · have : x = 15 ∨ x = 16 ∨ x = 17 ∨ x = 18 ∨ x = 19 ∨ x = 20 ∨ x = 21 ∨ x = 22 ∨ x = 23 ∨ x = 24 ∨ x = 25 ∨ x = 26 ∨ x = 27 ∨ x = 28 ∨ x = 29 ∨ x = 30 ∨ x = 31 := by omega
    rcases this with h | h | h | h | h | h | h | h | h | h | h | h | h | h | h | h | h
    · exact k0 h
    · exact k1 h
    · exact k2 h
    · exact k3 h
    · exact k4 h
    · exact k5 h
    · exact k6 h
    · exact k7 h
    · exact k8 h
    · exact k9 h
    · exact k10 h
    · exact k11 h
    · exact k12 h
    · exact k13 h
    · exact k14 h
    · exact k15 h
    · exact k16 h
theorem sw_33_61 {P : Prop} {x : Int} (k0 : x = 33 → P) (k1 : x = 34 → P) (k2 : x = 35 → P) (k3 : x = 36 → P) (k4 : x = 37 → P) (k5 : x = 38 → P) (k6 : x = 39 → P) (k7 : x = 40 → P) (k8 : x = 41 → P) (k9 : x = 42 → P) (k10 : x = 43 → P) (k11 : x = 44 → P) (k12 : x = 45 → P) (k13 : x = 46 → P) (k14 : x = 47 → P) (k15 : x = 48 → P) (k16 : x = 49 → P) (k17 : x = 50 → P) (k18 : x = 51 → P) (k19 : x = 52 → P) (k20 : x = 53 → P) (k21 : x = 54 → P) (k22 : x = 55 → P) (k23 : x = 56 → P) (k24 : x = 57 → P) (k25 : x = 58 → P) (k26 : x = 59 → P) (k27 : x = 60 → P) (k28 : x = 61 → P) (kd : x < 33 ∨ 61 < x → P) : P := by
  by_cases h : x < 33 ∨ 61 < x
  · exact kd h
  · have : x = 33 ∨ x = 34 ∨ x = 35 ∨ x = 36 ∨ x = 37 ∨ x = 38 ∨ x = 39 ∨ x = 40 ∨ x = 41 ∨ x = 42 ∨ x = 43 ∨ x = 44 ∨ x = 45 ∨ x = 46 ∨ x = 47 ∨ x = 48 ∨ x = 49 ∨ x = 50 ∨ x = 51 ∨ x = 52 ∨ x = 53 ∨ x = 54 ∨ x = 55 ∨ x = 56 ∨ x = 57 ∨ x = 58 ∨ x = 59 ∨ x = 60 ∨ x = 61 := by omega
    rcases this with h | h | h | h | h | h | h | h | h | h | h | h | h | h | h | h | h | h | h | h | h | h | h | h | h | h | h | h | h
    · exact k0 h
    · exact k1 h
    · exact k2 h
    · exact k3 h
    · exact k4 h
    · exact k5 h
    · exact k6 h
    · exact k7 h
    · exact k8 h
    · exact k9 h
    · exact k10 h
    · exact k11 h
    · exact k12 h
    · exact k13 h
    · exact k14 h
    · exact k15 h
    · exact k16 h
    · exact k17 h
    · exact k18 h
    · exact k19 h
    · exact k20 h
    · exact k21 h
    · exact k22 h
    · exact k23 h
    · exact k24 h
    · exact k25 h
    · exact k26 h
    · exact k27 h
    · exact k28 h
