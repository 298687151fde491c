theorem fp_RX0_13 : Fp RX0 13 0 1 (.array .int) true := ⟨_, okX0, by decide, gtb_in (List.mem_of_getElem? (i := 274) (by decide +kernel)) rfl, rfl, by decide +kernel, rfl⟩
theorem fp_RX0_9 : Fp RX0 9 0 0 (.array .int) true := ⟨_, okX0, by decide, gtb_in (List.mem_of_getElem? (i := 270) (by decide +kernel)) rfl, rfl, by decide +kernel, rfl⟩
theorem fp_RX1_15 : Fp RX1 15 1 5 (.array .int) true := ⟨_, okX1, by decide, gtb_in (List.mem_of_getElem? (i := 404) (by decide +kernel)) rfl, rfl, by decide +kernel, rfl⟩
theorem fp_RX1_18 : Fp RX1 18 1 0 (.object "LoatheMatch$World") true := ⟨_, okX1, by decide, gtb_in (List.mem_of_getElem? (i := 399) (by decide +kernel)) rfl, rfl, by decide +kernel, rfl⟩
theorem fp_RX1_9 : Fp RX1 9 1 4 (.array .int) true := ⟨_, okX1, by decide, gtb_in (List.mem_of_getElem? (i := 403) (by decide +kernel)) rfl, rfl, by decide +kernel, rfl⟩
theorem fp_RX2_11 : Fp RX2 11 2 0 (.array (.object "LoatheMatch$Life")) true := ⟨_, okX2, by decide, gtb_in (List.mem_of_getElem? (i := 355) (by decide +kernel)) rfl, rfl, by decide +kernel, rfl⟩
theorem fp_RX3_10 : Fp RX3 10 3 0 (.object "LoatheMatch$Rules") true := ⟨_, okX3, by decide, gtb_in (List.mem_of_getElem? (i := 1267) (by decide +kernel)) rfl, rfl, by decide +kernel, rfl⟩
theorem fp_RX3_19 : Fp RX3 19 3 1 (.object "LoatheMatch$Life") true := ⟨_, okX3, by decide, gtb_in (List.mem_of_getElem? (i := 1269) (by decide +kernel)) rfl, rfl, by decide +kernel, rfl⟩
theorem fp_RX4_9 : Fp RX4 9 4 0 (.array .int) true := ⟨_, okX4, by decide, gtb_in (List.mem_of_getElem? (i := 147) (by decide +kernel)) rfl, rfl, by decide +kernel, rfl⟩
theorem fp_RX5_15 : Fp RX5 15 5 2 (.array .int) true := ⟨_, okX5, by decide, gtb_in (List.mem_of_getElem? (i := 238) (by decide +kernel)) rfl, rfl, by decide +kernel, rfl⟩
theorem fp_RX5_18 : Fp RX5 18 5 3 (.array .int) true := ⟨_, okX5, by decide, gtb_in (List.mem_of_getElem? (i := 241) (by decide +kernel)) rfl, rfl, by decide +kernel, rfl⟩
theorem fp_RX5_21 : Fp RX5 21 5 4 (.array .int) true := ⟨_, okX5, by decide, gtb_in (List.mem_of_getElem? (i := 245) (by decide +kernel)) rfl, rfl, by decide +kernel, rfl⟩
theorem fp_RX5_24 : Fp RX5 24 5 5 (.array .int) true := ⟨_, okX5, by decide, gtb_in (List.mem_of_getElem? (i := 248) (by decide +kernel)) rfl, rfl, by decide +kernel, rfl⟩
theorem fp_RX5_9 : Fp RX5 9 5 1 (.array .int) true := ⟨_, okX5, by decide, gtb_in (List.mem_of_getElem? (i := 234) (by decide +kernel)) rfl, rfl, by decide +kernel, rfl⟩
theorem fp_RX6_15 : Fp RX6 15 6 2 (.array .int) true := ⟨_, okX6, by decide, gtb_in (List.mem_of_getElem? (i := 374) (by decide +kernel)) rfl, rfl, by decide +kernel, rfl⟩
theorem fp_RX6_19 : Fp RX6 19 6 3 (.array .int) true := ⟨_, okX6, by decide, gtb_in (List.mem_of_getElem? (i := 375) (by decide +kernel)) rfl, rfl, by decide +kernel, rfl⟩
theorem fp_RX6_22 : Fp RX6 22 6 4 (.array .int) true := ⟨_, okX6, by decide, gtb_in (List.mem_of_getElem? (i := 376) (by decide +kernel)) rfl, rfl, by decide +kernel, rfl⟩
theorem fp_RX6_25 : Fp RX6 25 6 5 (.array .int) true := ⟨_, okX6, by decide, gtb_in (List.mem_of_getElem? (i := 377) (by decide +kernel)) rfl, rfl, by decide +kernel, rfl⟩
theorem fp_RX6_9 : Fp RX6 9 6 1 (.array .boolean) true := ⟨_, okX6, by decide, gtb_in (List.mem_of_getElem? (i := 373) (by decide +kernel)) rfl, rfl, by decide +kernel, rfl⟩
theorem fp_RX7_15 : Fp RX7 15 7 1 (.object "LoatheMatch$Rules") true := ⟨_, okX7, by decide, gtb_in (List.mem_of_getElem? (i := 314) (by decide +kernel)) rfl, rfl, by decide +kernel, rfl⟩
theorem fp_RX7_19 : Fp RX7 19 7 2 (.object "LoatheMatch$Life") true := ⟨_, okX7, by decide, gtb_in (List.mem_of_getElem? (i := 315) (by decide +kernel)) rfl, rfl, by decide +kernel, rfl⟩
theorem fp_RX7_9 : Fp RX7 9 7 0 (.array .byte) true := ⟨_, okX7, by decide, gtb_in (List.mem_of_getElem? (i := 313) (by decide +kernel)) rfl, rfl, by decide +kernel, rfl⟩
theorem fp_RX8_15 : Fp RX8 15 8 6 (.array .int) true := ⟨_, okX8, by decide, gtb_in (List.mem_of_getElem? (i := 196) (by decide +kernel)) rfl, rfl, by decide +kernel, rfl⟩
theorem fp_RX8_21 : Fp RX8 21 8 7 (.object "LoatheMatch$Law") true := ⟨_, okX8, by decide, gtb_in (List.mem_of_getElem? (i := 201) (by decide +kernel)) rfl, rfl, by decide +kernel, rfl⟩
theorem fp_RX8_25 : Fp RX8 25 8 8 (.object "LoatheMatch$Law") true := ⟨_, okX8, by decide, gtb_in (List.mem_of_getElem? (i := 203) (by decide +kernel)) rfl, rfl, by decide +kernel, rfl⟩
theorem fp_RX8_9 : Fp RX8 9 8 5 (.array .int) true := ⟨_, okX8, by decide, gtb_in (List.mem_of_getElem? (i := 192) (by decide +kernel)) rfl, rfl, by decide +kernel, rfl⟩
theorem fp_RX9_9 : Fp RX9 9 9 3 (.array .long) true := ⟨_, okX9, by decide, gtb_in (List.mem_of_getElem? (i := 434) (by decide +kernel)) rfl, rfl, by decide +kernel, rfl⟩
theorem fp_RX10_15 : Fp RX10 15 10 1 (.object "LoatheMatch$Couple") true := ⟨_, okX10, by decide, gtb_in (List.mem_of_getElem? (i := 291) (by decide +kernel)) rfl, rfl, by decide +kernel, rfl⟩
theorem fp_RX10_22 : Fp RX10 22 10 2 (.object "LoatheMatch$Life") true := ⟨_, okX10, by decide, gtb_in (List.mem_of_getElem? (i := 294) (by decide +kernel)) rfl, rfl, by decide +kernel, rfl⟩
theorem fp_RX10_9 : Fp RX10 9 10 0 (.object "LoatheMatch$Rules") true := ⟨_, okX10, by decide, gtb_in (List.mem_of_getElem? (i := 288) (by decide +kernel)) rfl, rfl, by decide +kernel, rfl⟩
theorem fp_RX11_16 : Fp RX11 16 11 3 (.object "LoatheMatch$Rules") true := ⟨_, okX11, by decide, gtb_in (List.mem_of_getElem? (i := 451) (by decide +kernel)) rfl, rfl, by decide +kernel, rfl⟩
theorem fp_RX11_20 : Fp RX11 20 11 4 (.object "LoatheMatch$Rules") true := ⟨_, okX11, by decide, gtb_in (List.mem_of_getElem? (i := 452) (by decide +kernel)) rfl, rfl, by decide +kernel, rfl⟩
theorem fp_RX11_26 : Fp RX11 26 11 5 (.object "LoatheMatch$Life") true := ⟨_, okX11, by decide, gtb_in (List.mem_of_getElem? (i := 453) (by decide +kernel)) rfl, rfl, by decide +kernel, rfl⟩
theorem fp_RX11_38 : Fp RX11 38 11 6 (.object "LoatheMatch$World") true := ⟨_, okX11, by decide, gtb_in (List.mem_of_getElem? (i := 454) (by decide +kernel)) rfl, rfl, by decide +kernel, rfl⟩
theorem fp_RX11_42 : Fp RX11 42 11 7 (.object "LoatheMatch$World") true := ⟨_, okX11, by decide, gtb_in (List.mem_of_getElem? (i := 455) (by decide +kernel)) rfl, rfl, by decide +kernel, rfl⟩
theorem fp_RX11_50 : Fp RX11 50 11 8 (.object "LoatheMatch$Reader") true := ⟨_, okX11, by decide, gtb_in (List.mem_of_getElem? (i := 456) (by decide +kernel)) rfl, rfl, by decide +kernel, rfl⟩
theorem fp_RX11_57 : Fp RX11 57 11 9 (.object "LoatheMatch$History") true := ⟨_, okX11, by decide, gtb_in (List.mem_of_getElem? (i := 457) (by decide +kernel)) rfl, rfl, by decide +kernel, rfl⟩
theorem fp_RX11_64 : Fp RX11 64 11 10 (.object "LoatheMatch$Matching") true := ⟨_, okX11, by decide, gtb_in (List.mem_of_getElem? (i := 458) (by decide +kernel)) rfl, rfl, by decide +kernel, rfl⟩
theorem fp_RX11_73 : Fp RX11 73 11 11 (.object "LoatheMatch$Fibs") true := ⟨_, okX11, by decide, gtb_in (List.mem_of_getElem? (i := 459) (by decide +kernel)) rfl, rfl, by decide +kernel, rfl⟩
theorem fp_RX11_79 : Fp RX11 79 11 12 (.array (.object "LoatheMatch$Tray")) true := ⟨_, okX11, by decide, gtb_in (List.mem_of_getElem? (i := 460) (by decide +kernel)) rfl, rfl, by decide +kernel, rfl⟩
theorem fp_RX11_86 : Fp RX11 86 11 13 (.array (.object "LoatheMatch$Image")) true := ⟨_, okX11, by decide, gtb_in (List.mem_of_getElem? (i := 461) (by decide +kernel)) rfl, rfl, by decide +kernel, rfl⟩
theorem fp_RX11_9 : Fp RX11 9 11 0 (.array .byte) true := ⟨_, okX11, by decide, gtb_in (List.mem_of_getElem? (i := 448) (by decide +kernel)) rfl, rfl, by decide +kernel, rfl⟩
theorem fp_RX12_13 : Fp RX12 13 12 1 (.array .int) true := ⟨_, okX12, by decide, gtb_in (List.mem_of_getElem? (i := 1298) (by decide +kernel)) rfl, rfl, by decide +kernel, rfl⟩
theorem fp_RX12_17 : Fp RX12 17 12 2 (.array .boolean) true := ⟨_, okX12, by decide, gtb_in (List.mem_of_getElem? (i := 1299) (by decide +kernel)) rfl, rfl, by decide +kernel, rfl⟩
theorem fp_RX12_21 : Fp RX12 21 12 3 (.array .int) true := ⟨_, okX12, by decide, gtb_in (List.mem_of_getElem? (i := 1300) (by decide +kernel)) rfl, rfl, by decide +kernel, rfl⟩
theorem fp_RX12_24 : Fp RX12 24 12 4 (.array .int) true := ⟨_, okX12, by decide, gtb_in (List.mem_of_getElem? (i := 1301) (by decide +kernel)) rfl, rfl, by decide +kernel, rfl⟩
theorem fp_RX12_30 : Fp RX12 30 12 15 (.array .int) true := ⟨_, okX12, by decide, gtb_in (List.mem_of_getElem? (i := 1312) (by decide +kernel)) rfl, rfl, by decide +kernel, rfl⟩
theorem fp_RX12_33 : Fp RX12 33 12 16 (.array .int) true := ⟨_, okX12, by decide, gtb_in (List.mem_of_getElem? (i := 1313) (by decide +kernel)) rfl, rfl, by decide +kernel, rfl⟩
theorem fp_RX12_36 : Fp RX12 36 12 17 (.array .int) true := ⟨_, okX12, by decide, gtb_in (List.mem_of_getElem? (i := 1314) (by decide +kernel)) rfl, rfl, by decide +kernel, rfl⟩
theorem fp_RX12_39 : Fp RX12 39 12 18 (.array .int) true := ⟨_, okX12, by decide, gtb_in (List.mem_of_getElem? (i := 1315) (by decide +kernel)) rfl, rfl, by decide +kernel, rfl⟩
theorem fp_RX12_42 : Fp RX12 42 12 21 (.array .int) true := ⟨_, okX12, by decide, gtb_in (List.mem_of_getElem? (i := 1318) (by decide +kernel)) rfl, rfl, by decide +kernel, rfl⟩
theorem fp_RX12_45 : Fp RX12 45 12 22 (.array .int) true := ⟨_, okX12, by decide, gtb_in (List.mem_of_getElem? (i := 1319) (by decide +kernel)) rfl, rfl, by decide +kernel, rfl⟩
theorem fp_RX12_48 : Fp RX12 48 12 23 (.array .int) true := ⟨_, okX12, by decide, gtb_in (List.mem_of_getElem? (i := 1320) (by decide +kernel)) rfl, rfl, by decide +kernel, rfl⟩
theorem fp_RX12_51 : Fp RX12 51 12 24 (.array .boolean) true := ⟨_, okX12, by decide, gtb_in (List.mem_of_getElem? (i := 1321) (by decide +kernel)) rfl, rfl, by decide +kernel, rfl⟩
theorem fp_RX12_54 : Fp RX12 54 12 29 (.array .int) true := ⟨_, okX12, by decide, gtb_in (List.mem_of_getElem? (i := 1326) (by decide +kernel)) rfl, rfl, by decide +kernel, rfl⟩
theorem fp_RX12_57 : Fp RX12 57 12 30 (.array .int) true := ⟨_, okX12, by decide, gtb_in (List.mem_of_getElem? (i := 1327) (by decide +kernel)) rfl, rfl, by decide +kernel, rfl⟩
theorem fp_RX12_60 : Fp RX12 60 12 31 (.array .int) true := ⟨_, okX12, by decide, gtb_in (List.mem_of_getElem? (i := 1328) (by decide +kernel)) rfl, rfl, by decide +kernel, rfl⟩
theorem fp_RX12_63 : Fp RX12 63 12 32 (.array .long) true := ⟨_, okX12, by decide, gtb_in (List.mem_of_getElem? (i := 1329) (by decide +kernel)) rfl, rfl, by decide +kernel, rfl⟩
theorem ml_RX2_17 : Cond.methodLink RX2 17 yX5_init ∈ gtb := gtb_in (List.mem_of_getElem? (i := 354) (by decide +kernel)) rfl
theorem ml_RX3_18 : Cond.methodLink RX3 18 yX5_init ∈ gtb := gtb_in (List.mem_of_getElem? (i := 1266) (by decide +kernel)) rfl
theorem ml_RX3_9 : Cond.methodLink RX3 9 yX8_init ∈ gtb := gtb_in (List.mem_of_getElem? (i := 1264) (by decide +kernel)) rfl
theorem ml_RX10_21 : Cond.methodLink RX10 21 yX5_init ∈ gtb := gtb_in (List.mem_of_getElem? (i := 287) (by decide +kernel)) rfl
theorem ml_RX11_15 : Cond.methodLink RX11 15 yX8_init ∈ gtb := gtb_in (List.mem_of_getElem? (i := 137) (by decide +kernel)) rfl
theorem ml_RX11_25 : Cond.methodLink RX11 25 yX5_init ∈ gtb := gtb_in (List.mem_of_getElem? (i := 227) (by decide +kernel)) rfl
theorem ml_RX11_35 : Cond.methodLink RX11 35 yX10_init ∈ gtb := gtb_in (List.mem_of_getElem? (i := 282) (by decide +kernel)) rfl
theorem ml_RX11_47 : Cond.methodLink RX11 47 yX7_init ∈ gtb := gtb_in (List.mem_of_getElem? (i := 309) (by decide +kernel)) rfl
theorem ml_RX11_56 : Cond.methodLink RX11 56 yX2_init ∈ gtb := gtb_in (List.mem_of_getElem? (i := 348) (by decide +kernel)) rfl
theorem ml_RX11_70 : Cond.methodLink RX11 70 yX1_init ∈ gtb := gtb_in (List.mem_of_getElem? (i := 395) (by decide +kernel)) rfl
theorem oj_RX11_1 : Cond.methodLink RX11 1 Lib.objectInit ∈ gtb := gtb_in (List.mem_of_getElem? (i := 132) (by decide +kernel)) rfl
theorem oj_RX0_1 : Cond.methodLink RX0 1 Lib.objectInit ∈ gtb := gtb_in (List.mem_of_getElem? (i := 269) (by decide +kernel)) rfl
theorem oj_RX1_3 : Cond.methodLink RX1 3 Lib.objectInit ∈ gtb := gtb_in (List.mem_of_getElem? (i := 398) (by decide +kernel)) rfl
theorem oj_RX2_3 : Cond.methodLink RX2 3 Lib.objectInit ∈ gtb := gtb_in (List.mem_of_getElem? (i := 351) (by decide +kernel)) rfl
theorem oj_RX3_1 : Cond.methodLink RX3 1 Lib.objectInit ∈ gtb := gtb_in (List.mem_of_getElem? (i := 1262) (by decide +kernel)) rfl
theorem oj_RX4_3 : Cond.methodLink RX4 3 Lib.objectInit ∈ gtb := gtb_in (List.mem_of_getElem? (i := 146) (by decide +kernel)) rfl
theorem oj_RX5_3 : Cond.methodLink RX5 3 Lib.objectInit ∈ gtb := gtb_in (List.mem_of_getElem? (i := 230) (by decide +kernel)) rfl
theorem oj_RX6_3 : Cond.methodLink RX6 3 Lib.objectInit ∈ gtb := gtb_in (List.mem_of_getElem? (i := 371) (by decide +kernel)) rfl
theorem oj_RX7_3 : Cond.methodLink RX7 3 Lib.objectInit ∈ gtb := gtb_in (List.mem_of_getElem? (i := 312) (by decide +kernel)) rfl
theorem oj_RX8_3 : Cond.methodLink RX8 3 Lib.objectInit ∈ gtb := gtb_in (List.mem_of_getElem? (i := 140) (by decide +kernel)) rfl
theorem oj_RX9_3 : Cond.methodLink RX9 3 Lib.objectInit ∈ gtb := gtb_in (List.mem_of_getElem? (i := 428) (by decide +kernel)) rfl
theorem oj_RX10_3 : Cond.methodLink RX10 3 Lib.objectInit ∈ gtb := gtb_in (List.mem_of_getElem? (i := 285) (by decide +kernel)) rfl
theorem oj_RX12_7 : Cond.methodLink RX12 7 Lib.objectInit ∈ gtb := gtb_in (List.mem_of_getElem? (i := 1293) (by decide +kernel)) rfl
theorem oj_i : Cond.instanceMethod Lib.objectInit ∈ gtb := gtb_in (List.mem_of_getElem? (i := 133) (by decide +kernel)) rfl
theorem oj_c : Cond.code Lib.objectInit ⟨#[0xb1]⟩ 1 none ∈ gtb := gtb_in (List.mem_of_getElem? (i := 134) (by decide +kernel)) rfl
theorem ni_11 : Cond.instantiable RX11 14 ∈ gtb := gtb_in (List.mem_of_getElem? (i := 128) (by decide +kernel)) rfl
theorem nz_11 : Cond.initialized RX11 ∈ gtb := gtb_in (List.mem_of_getElem? (i := 106) (by decide +kernel)) rfl
theorem nc_RX11_13 : Cond.classLink RX11 13 RX8 ∈ gtb := gtb_in (List.mem_of_getElem? (i := 135) (by decide +kernel)) rfl
theorem ni_8 : Cond.instantiable RX8 9 ∈ gtb := gtb_in (List.mem_of_getElem? (i := 136) (by decide +kernel)) rfl
theorem nz_8 : Cond.initialized RX8 ∈ gtb := gtb_in (List.mem_of_getElem? (i := 107) (by decide +kernel)) rfl
theorem nc_RX8_18 : Cond.classLink RX8 18 RX4 ∈ gtb := gtb_in (List.mem_of_getElem? (i := 141) (by decide +kernel)) rfl
theorem ni_4 : Cond.instantiable RX4 2 ∈ gtb := gtb_in (List.mem_of_getElem? (i := 142) (by decide +kernel)) rfl
theorem nz_4 : Cond.initialized RX4 ∈ gtb := gtb_in (List.mem_of_getElem? (i := 108) (by decide +kernel)) rfl
theorem ac_byte : Cond.arrayClass (newarray.typeOf .byte) ∈ gtb := gtb_in (List.mem_of_getElem? (i := 158) (by decide +kernel)) rfl
theorem ac_int : Cond.arrayClass (newarray.typeOf .int) ∈ gtb := gtb_in (List.mem_of_getElem? (i := 159) (by decide +kernel)) rfl
theorem nc_RX11_23 : Cond.classLink RX11 23 RX5 ∈ gtb := gtb_in (List.mem_of_getElem? (i := 225) (by decide +kernel)) rfl
theorem ni_5 : Cond.instantiable RX5 6 ∈ gtb := gtb_in (List.mem_of_getElem? (i := 226) (by decide +kernel)) rfl
theorem nz_5 : Cond.initialized RX5 ∈ gtb := gtb_in (List.mem_of_getElem? (i := 109) (by decide +kernel)) rfl
theorem nc_RX11_30 : Cond.classLink RX11 30 RX0 ∈ gtb := gtb_in (List.mem_of_getElem? (i := 264) (by decide +kernel)) rfl
theorem ni_0 : Cond.instantiable RX0 2 ∈ gtb := gtb_in (List.mem_of_getElem? (i := 265) (by decide +kernel)) rfl
theorem nz_0 : Cond.initialized RX0 ∈ gtb := gtb_in (List.mem_of_getElem? (i := 110) (by decide +kernel)) rfl
theorem nc_RX11_33 : Cond.classLink RX11 33 RX10 ∈ gtb := gtb_in (List.mem_of_getElem? (i := 280) (by decide +kernel)) rfl
theorem ni_10 : Cond.instantiable RX10 4 ∈ gtb := gtb_in (List.mem_of_getElem? (i := 281) (by decide +kernel)) rfl
theorem nz_10 : Cond.initialized RX10 ∈ gtb := gtb_in (List.mem_of_getElem? (i := 111) (by decide +kernel)) rfl
theorem nc_RX10_19 : Cond.classLink RX10 19 RX5 ∈ gtb := gtb_in (List.mem_of_getElem? (i := 286) (by decide +kernel)) rfl
theorem nc_RX11_45 : Cond.classLink RX11 45 RX7 ∈ gtb := gtb_in (List.mem_of_getElem? (i := 307) (by decide +kernel)) rfl
theorem ni_7 : Cond.instantiable RX7 10 ∈ gtb := gtb_in (List.mem_of_getElem? (i := 308) (by decide +kernel)) rfl
theorem nz_7 : Cond.initialized RX7 ∈ gtb := gtb_in (List.mem_of_getElem? (i := 112) (by decide +kernel)) rfl
theorem nc_RX11_54 : Cond.classLink RX11 54 RX2 ∈ gtb := gtb_in (List.mem_of_getElem? (i := 346) (by decide +kernel)) rfl
theorem ni_2 : Cond.instantiable RX2 3 ∈ gtb := gtb_in (List.mem_of_getElem? (i := 347) (by decide +kernel)) rfl
theorem nz_2 : Cond.initialized RX2 ∈ gtb := gtb_in (List.mem_of_getElem? (i := 113) (by decide +kernel)) rfl
theorem nc_RX2_9 : Cond.classLink RX2 9 RX5 ∈ gtb := gtb_in (List.mem_of_getElem? (i := 352) (by decide +kernel)) rfl
theorem nc_RX11_61 : Cond.classLink RX11 61 RX6 ∈ gtb := gtb_in (List.mem_of_getElem? (i := 366) (by decide +kernel)) rfl
theorem ni_6 : Cond.instantiable RX6 6 ∈ gtb := gtb_in (List.mem_of_getElem? (i := 367) (by decide +kernel)) rfl
theorem nz_6 : Cond.initialized RX6 ∈ gtb := gtb_in (List.mem_of_getElem? (i := 114) (by decide +kernel)) rfl
theorem ac_boolean : Cond.arrayClass (newarray.typeOf .boolean) ∈ gtb := gtb_in (List.mem_of_getElem? (i := 392) (by decide +kernel)) rfl
theorem nc_RX11_68 : Cond.classLink RX11 68 RX1 ∈ gtb := gtb_in (List.mem_of_getElem? (i := 393) (by decide +kernel)) rfl
theorem ni_1 : Cond.instantiable RX1 7 ∈ gtb := gtb_in (List.mem_of_getElem? (i := 394) (by decide +kernel)) rfl
theorem nz_1 : Cond.initialized RX1 ∈ gtb := gtb_in (List.mem_of_getElem? (i := 115) (by decide +kernel)) rfl
theorem nc_RX11_77 : Cond.classLink RX11 77 RX9 ∈ gtb := gtb_in (List.mem_of_getElem? (i := 422) (by decide +kernel)) rfl
theorem ni_9 : Cond.instantiable RX9 4 ∈ gtb := gtb_in (List.mem_of_getElem? (i := 424) (by decide +kernel)) rfl
theorem nz_9 : Cond.initialized RX9 ∈ gtb := gtb_in (List.mem_of_getElem? (i := 116) (by decide +kernel)) rfl
theorem ac_long : Cond.arrayClass (newarray.typeOf .long) ∈ gtb := gtb_in (List.mem_of_getElem? (i := 445) (by decide +kernel)) rfl
theorem nc_RX11_84 : Cond.classLink RX11 84 RX3 ∈ gtb := gtb_in (List.mem_of_getElem? (i := 446) (by decide +kernel)) rfl
theorem ni_3 : Cond.instantiable RX3 2 ∈ gtb := gtb_in (List.mem_of_getElem? (i := 1258) (by decide +kernel)) rfl
theorem nz_3 : Cond.initialized RX3 ∈ gtb := gtb_in (List.mem_of_getElem? (i := 126) (by decide +kernel)) rfl
theorem nc_RX3_7 : Cond.classLink RX3 7 RX8 ∈ gtb := gtb_in (List.mem_of_getElem? (i := 1263) (by decide +kernel)) rfl
theorem nc_RX3_16 : Cond.classLink RX3 16 RX5 ∈ gtb := gtb_in (List.mem_of_getElem? (i := 1265) (by decide +kernel)) rfl
theorem ni_12 : Cond.instantiable RX12 33 ∈ gtb := gtb_in (List.mem_of_getElem? (i := 1289) (by decide +kernel)) rfl
theorem nz_12 : Cond.initialized RX12 ∈ gtb := gtb_in (List.mem_of_getElem? (i := 117) (by decide +kernel)) rfl
theorem ck_X4_init : CkB yX4_init cX4_init 1 none 0 := ⟨gtb_in (List.mem_of_getElem? (i := 108) (by decide +kernel)) rfl, gtb_in (List.mem_of_getElem? (i := 145) (by decide +kernel)) rfl, by decide +kernel⟩
theorem in_X4_init : Cond.instanceMethod yX4_init ∈ gtb := gtb_in (List.mem_of_getElem? (i := 144) (by decide +kernel)) rfl
theorem ck_X8_init : CkB yX8_init cX8_init 1 none 0 := ⟨gtb_in (List.mem_of_getElem? (i := 107) (by decide +kernel)) rfl, gtb_in (List.mem_of_getElem? (i := 139) (by decide +kernel)) rfl, by decide +kernel⟩
theorem in_X8_init : Cond.instanceMethod yX8_init ∈ gtb := gtb_in (List.mem_of_getElem? (i := 138) (by decide +kernel)) rfl
theorem ck_X5_init : CkB yX5_init cX5_init 2 none 0 := ⟨gtb_in (List.mem_of_getElem? (i := 109) (by decide +kernel)) rfl, gtb_in (List.mem_of_getElem? (i := 229) (by decide +kernel)) rfl, by decide +kernel⟩
theorem in_X5_init : Cond.instanceMethod yX5_init ∈ gtb := gtb_in (List.mem_of_getElem? (i := 228) (by decide +kernel)) rfl
theorem ck_X0_init : CkB yX0_init cX0_init 1 none 0 := ⟨gtb_in (List.mem_of_getElem? (i := 110) (by decide +kernel)) rfl, gtb_in (List.mem_of_getElem? (i := 268) (by decide +kernel)) rfl, by decide +kernel⟩
theorem in_X0_init : Cond.instanceMethod yX0_init ∈ gtb := gtb_in (List.mem_of_getElem? (i := 267) (by decide +kernel)) rfl
theorem ck_X10_init : CkB yX10_init cX10_init 3 none 2 := ⟨gtb_in (List.mem_of_getElem? (i := 111) (by decide +kernel)) rfl, gtb_in (List.mem_of_getElem? (i := 284) (by decide +kernel)) rfl, by decide +kernel⟩
theorem in_X10_init : Cond.instanceMethod yX10_init ∈ gtb := gtb_in (List.mem_of_getElem? (i := 283) (by decide +kernel)) rfl
theorem ck_X7_init : CkB yX7_init cX7_init 4 none 3 := ⟨gtb_in (List.mem_of_getElem? (i := 112) (by decide +kernel)) rfl, gtb_in (List.mem_of_getElem? (i := 311) (by decide +kernel)) rfl, by decide +kernel⟩
theorem in_X7_init : Cond.instanceMethod yX7_init ∈ gtb := gtb_in (List.mem_of_getElem? (i := 310) (by decide +kernel)) rfl
theorem ck_X2_init : CkB yX2_init cX2_init 2 none 0 := ⟨gtb_in (List.mem_of_getElem? (i := 113) (by decide +kernel)) rfl, gtb_in (List.mem_of_getElem? (i := 350) (by decide +kernel)) rfl, by decide +kernel⟩
theorem in_X2_init : Cond.instanceMethod yX2_init ∈ gtb := gtb_in (List.mem_of_getElem? (i := 349) (by decide +kernel)) rfl
theorem ck_X6_init : CkB yX6_init cX6_init 1 none 0 := ⟨gtb_in (List.mem_of_getElem? (i := 114) (by decide +kernel)) rfl, gtb_in (List.mem_of_getElem? (i := 370) (by decide +kernel)) rfl, by decide +kernel⟩
theorem in_X6_init : Cond.instanceMethod yX6_init ∈ gtb := gtb_in (List.mem_of_getElem? (i := 369) (by decide +kernel)) rfl
theorem ck_X1_init : CkB yX1_init cX1_init 2 none 1 := ⟨gtb_in (List.mem_of_getElem? (i := 115) (by decide +kernel)) rfl, gtb_in (List.mem_of_getElem? (i := 397) (by decide +kernel)) rfl, by decide +kernel⟩
theorem in_X1_init : Cond.instanceMethod yX1_init ∈ gtb := gtb_in (List.mem_of_getElem? (i := 396) (by decide +kernel)) rfl
theorem ck_X9_init : CkB yX9_init cX9_init 1 none 0 := ⟨gtb_in (List.mem_of_getElem? (i := 116) (by decide +kernel)) rfl, gtb_in (List.mem_of_getElem? (i := 427) (by decide +kernel)) rfl, by decide +kernel⟩
theorem in_X9_init : Cond.instanceMethod yX9_init ∈ gtb := gtb_in (List.mem_of_getElem? (i := 426) (by decide +kernel)) rfl
theorem ck_X3_init : CkB yX3_init cX3_init 1 none 0 := ⟨gtb_in (List.mem_of_getElem? (i := 126) (by decide +kernel)) rfl, gtb_in (List.mem_of_getElem? (i := 1261) (by decide +kernel)) rfl, by decide +kernel⟩
theorem in_X3_init : Cond.instanceMethod yX3_init ∈ gtb := gtb_in (List.mem_of_getElem? (i := 1260) (by decide +kernel)) rfl
theorem ck_X11_init : CkB yX11_init cX11_init 3 none 0 := ⟨gtb_in (List.mem_of_getElem? (i := 106) (by decide +kernel)) rfl, gtb_in (List.mem_of_getElem? (i := 131) (by decide +kernel)) rfl, by decide +kernel⟩
theorem in_X11_init : Cond.instanceMethod yX11_init ∈ gtb := gtb_in (List.mem_of_getElem? (i := 130) (by decide +kernel)) rfl
theorem ck_X12_init : CkB yX12_init cX12_init 1 none 0 := ⟨gtb_in (List.mem_of_getElem? (i := 117) (by decide +kernel)) rfl, gtb_in (List.mem_of_getElem? (i := 1292) (by decide +kernel)) rfl, by decide +kernel⟩
theorem in_X12_init : Cond.instanceMethod yX12_init ∈ gtb := gtb_in (List.mem_of_getElem? (i := 1291) (by decide +kernel)) rfl
