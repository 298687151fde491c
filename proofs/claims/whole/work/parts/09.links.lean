theorem fl_RX0_13 : Fl RX0 13 0 1 := ⟨_, okX0, by decide, gtb_in (List.mem_of_getElem? (i := 274) (by decide +kernel)) rfl⟩
theorem fl_RX0_16 : Fl RX0 16 4 1 := ⟨_, okX4, by decide, gtb_in (List.mem_of_getElem? (i := 149) (by decide +kernel)) rfl⟩
theorem fl_RX0_22 : Fl RX0 22 4 0 := ⟨_, okX4, by decide, gtb_in (List.mem_of_getElem? (i := 148) (by decide +kernel)) rfl⟩
theorem fl_RX0_9 : Fl RX0 9 0 0 := ⟨_, okX0, by decide, gtb_in (List.mem_of_getElem? (i := 270) (by decide +kernel)) rfl⟩
theorem fl_RX1_15 : Fl RX1 15 1 5 := ⟨_, okX1, by decide, gtb_in (List.mem_of_getElem? (i := 404) (by decide +kernel)) rfl⟩
theorem fl_RX1_18 : Fl RX1 18 1 0 := ⟨_, okX1, by decide, gtb_in (List.mem_of_getElem? (i := 399) (by decide +kernel)) rfl⟩
theorem fl_RX1_22 : Fl RX1 22 1 1 := ⟨_, okX1, by decide, gtb_in (List.mem_of_getElem? (i := 400) (by decide +kernel)) rfl⟩
theorem fl_RX1_26 : Fl RX1 26 1 2 := ⟨_, okX1, by decide, gtb_in (List.mem_of_getElem? (i := 401) (by decide +kernel)) rfl⟩
theorem fl_RX1_29 : Fl RX1 29 10 0 := ⟨_, okX10, by decide, gtb_in (List.mem_of_getElem? (i := 290) (by decide +kernel)) rfl⟩
theorem fl_RX1_35 : Fl RX1 35 8 0 := ⟨_, okX8, by decide, gtb_in (List.mem_of_getElem? (i := 172) (by decide +kernel)) rfl⟩
theorem fl_RX1_40 : Fl RX1 40 10 2 := ⟨_, okX10, by decide, gtb_in (List.mem_of_getElem? (i := 295) (by decide +kernel)) rfl⟩
theorem fl_RX1_44 : Fl RX1 44 5 3 := ⟨_, okX5, by decide, gtb_in (List.mem_of_getElem? (i := 242) (by decide +kernel)) rfl⟩
theorem fl_RX1_49 : Fl RX1 49 1 3 := ⟨_, okX1, by decide, gtb_in (List.mem_of_getElem? (i := 402) (by decide +kernel)) rfl⟩
theorem fl_RX1_72 : Fl RX1 72 10 1 := ⟨_, okX10, by decide, gtb_in (List.mem_of_getElem? (i := 292) (by decide +kernel)) rfl⟩
theorem fl_RX1_76 : Fl RX1 76 0 0 := ⟨_, okX0, by decide, gtb_in (List.mem_of_getElem? (i := 271) (by decide +kernel)) rfl⟩
theorem fl_RX1_9 : Fl RX1 9 1 4 := ⟨_, okX1, by decide, gtb_in (List.mem_of_getElem? (i := 403) (by decide +kernel)) rfl⟩
theorem fl_RX1_92 : Fl RX1 92 8 2 := ⟨_, okX8, by decide, gtb_in (List.mem_of_getElem? (i := 183) (by decide +kernel)) rfl⟩
theorem fl_RX2_11 : Fl RX2 11 2 0 := ⟨_, okX2, by decide, gtb_in (List.mem_of_getElem? (i := 355) (by decide +kernel)) rfl⟩
theorem fl_RX2_18 : Fl RX2 18 2 2 := ⟨_, okX2, by decide, gtb_in (List.mem_of_getElem? (i := 357) (by decide +kernel)) rfl⟩
theorem fl_RX2_22 : Fl RX2 22 2 1 := ⟨_, okX2, by decide, gtb_in (List.mem_of_getElem? (i := 356) (by decide +kernel)) rfl⟩
theorem fl_RX4_15 : Fl RX4 15 4 1 := ⟨_, okX4, by decide, gtb_in (List.mem_of_getElem? (i := 150) (by decide +kernel)) rfl⟩
theorem fl_RX4_9 : Fl RX4 9 4 0 := ⟨_, okX4, by decide, gtb_in (List.mem_of_getElem? (i := 147) (by decide +kernel)) rfl⟩
theorem fl_RX5_15 : Fl RX5 15 5 2 := ⟨_, okX5, by decide, gtb_in (List.mem_of_getElem? (i := 238) (by decide +kernel)) rfl⟩
theorem fl_RX5_18 : Fl RX5 18 5 3 := ⟨_, okX5, by decide, gtb_in (List.mem_of_getElem? (i := 241) (by decide +kernel)) rfl⟩
theorem fl_RX5_21 : Fl RX5 21 5 4 := ⟨_, okX5, by decide, gtb_in (List.mem_of_getElem? (i := 245) (by decide +kernel)) rfl⟩
theorem fl_RX5_24 : Fl RX5 24 5 5 := ⟨_, okX5, by decide, gtb_in (List.mem_of_getElem? (i := 248) (by decide +kernel)) rfl⟩
theorem fl_RX5_27 : Fl RX5 27 5 0 := ⟨_, okX5, by decide, gtb_in (List.mem_of_getElem? (i := 231) (by decide +kernel)) rfl⟩
theorem fl_RX5_9 : Fl RX5 9 5 1 := ⟨_, okX5, by decide, gtb_in (List.mem_of_getElem? (i := 234) (by decide +kernel)) rfl⟩
theorem fl_RX6_15 : Fl RX6 15 6 2 := ⟨_, okX6, by decide, gtb_in (List.mem_of_getElem? (i := 374) (by decide +kernel)) rfl⟩
theorem fl_RX6_19 : Fl RX6 19 6 3 := ⟨_, okX6, by decide, gtb_in (List.mem_of_getElem? (i := 375) (by decide +kernel)) rfl⟩
theorem fl_RX6_22 : Fl RX6 22 6 4 := ⟨_, okX6, by decide, gtb_in (List.mem_of_getElem? (i := 376) (by decide +kernel)) rfl⟩
theorem fl_RX6_25 : Fl RX6 25 6 5 := ⟨_, okX6, by decide, gtb_in (List.mem_of_getElem? (i := 377) (by decide +kernel)) rfl⟩
theorem fl_RX6_28 : Fl RX6 28 10 0 := ⟨_, okX10, by decide, gtb_in (List.mem_of_getElem? (i := 289) (by decide +kernel)) rfl⟩
theorem fl_RX6_34 : Fl RX6 34 8 1 := ⟨_, okX8, by decide, gtb_in (List.mem_of_getElem? (i := 176) (by decide +kernel)) rfl⟩
theorem fl_RX6_40 : Fl RX6 40 6 0 := ⟨_, okX6, by decide, gtb_in (List.mem_of_getElem? (i := 372) (by decide +kernel)) rfl⟩
theorem fl_RX6_9 : Fl RX6 9 6 1 := ⟨_, okX6, by decide, gtb_in (List.mem_of_getElem? (i := 373) (by decide +kernel)) rfl⟩
theorem fl_RX7_100 : Fl RX7 100 8 8 := ⟨_, okX8, by decide, gtb_in (List.mem_of_getElem? (i := 204) (by decide +kernel)) rfl⟩
theorem fl_RX7_120 : Fl RX7 120 8 0 := ⟨_, okX8, by decide, gtb_in (List.mem_of_getElem? (i := 174) (by decide +kernel)) rfl⟩
theorem fl_RX7_128 : Fl RX7 128 8 5 := ⟨_, okX8, by decide, gtb_in (List.mem_of_getElem? (i := 193) (by decide +kernel)) rfl⟩
theorem fl_RX7_131 : Fl RX7 131 8 1 := ⟨_, okX8, by decide, gtb_in (List.mem_of_getElem? (i := 179) (by decide +kernel)) rfl⟩
theorem fl_RX7_139 : Fl RX7 139 5 1 := ⟨_, okX5, by decide, gtb_in (List.mem_of_getElem? (i := 235) (by decide +kernel)) rfl⟩
theorem fl_RX7_141 : Fl RX7 141 8 6 := ⟨_, okX8, by decide, gtb_in (List.mem_of_getElem? (i := 197) (by decide +kernel)) rfl⟩
theorem fl_RX7_15 : Fl RX7 15 7 1 := ⟨_, okX7, by decide, gtb_in (List.mem_of_getElem? (i := 314) (by decide +kernel)) rfl⟩
theorem fl_RX7_19 : Fl RX7 19 7 2 := ⟨_, okX7, by decide, gtb_in (List.mem_of_getElem? (i := 315) (by decide +kernel)) rfl⟩
theorem fl_RX7_207 : Fl RX7 207 7 6 := ⟨_, okX7, by decide, gtb_in (List.mem_of_getElem? (i := 319) (by decide +kernel)) rfl⟩
theorem fl_RX7_23 : Fl RX7 23 8 7 := ⟨_, okX8, by decide, gtb_in (List.mem_of_getElem? (i := 200) (by decide +kernel)) rfl⟩
theorem fl_RX7_29 : Fl RX7 29 7 3 := ⟨_, okX7, by decide, gtb_in (List.mem_of_getElem? (i := 316) (by decide +kernel)) rfl⟩
theorem fl_RX7_42 : Fl RX7 42 7 4 := ⟨_, okX7, by decide, gtb_in (List.mem_of_getElem? (i := 317) (by decide +kernel)) rfl⟩
theorem fl_RX7_45 : Fl RX7 45 7 8 := ⟨_, okX7, by decide, gtb_in (List.mem_of_getElem? (i := 321) (by decide +kernel)) rfl⟩
theorem fl_RX7_54 : Fl RX7 54 7 7 := ⟨_, okX7, by decide, gtb_in (List.mem_of_getElem? (i := 320) (by decide +kernel)) rfl⟩
theorem fl_RX7_60 : Fl RX7 60 7 5 := ⟨_, okX7, by decide, gtb_in (List.mem_of_getElem? (i := 318) (by decide +kernel)) rfl⟩
theorem fl_RX7_71 : Fl RX7 71 8 4 := ⟨_, okX8, by decide, gtb_in (List.mem_of_getElem? (i := 190) (by decide +kernel)) rfl⟩
theorem fl_RX7_9 : Fl RX7 9 7 0 := ⟨_, okX7, by decide, gtb_in (List.mem_of_getElem? (i := 313) (by decide +kernel)) rfl⟩
theorem fl_RX8_15 : Fl RX8 15 8 6 := ⟨_, okX8, by decide, gtb_in (List.mem_of_getElem? (i := 196) (by decide +kernel)) rfl⟩
theorem fl_RX8_21 : Fl RX8 21 8 7 := ⟨_, okX8, by decide, gtb_in (List.mem_of_getElem? (i := 201) (by decide +kernel)) rfl⟩
theorem fl_RX8_25 : Fl RX8 25 8 8 := ⟨_, okX8, by decide, gtb_in (List.mem_of_getElem? (i := 203) (by decide +kernel)) rfl⟩
theorem fl_RX8_28 : Fl RX8 28 8 2 := ⟨_, okX8, by decide, gtb_in (List.mem_of_getElem? (i := 181) (by decide +kernel)) rfl⟩
theorem fl_RX8_32 : Fl RX8 32 8 3 := ⟨_, okX8, by decide, gtb_in (List.mem_of_getElem? (i := 185) (by decide +kernel)) rfl⟩
theorem fl_RX8_38 : Fl RX8 38 8 0 := ⟨_, okX8, by decide, gtb_in (List.mem_of_getElem? (i := 171) (by decide +kernel)) rfl⟩
theorem fl_RX8_41 : Fl RX8 41 8 1 := ⟨_, okX8, by decide, gtb_in (List.mem_of_getElem? (i := 177) (by decide +kernel)) rfl⟩
theorem fl_RX8_44 : Fl RX8 44 8 4 := ⟨_, okX8, by decide, gtb_in (List.mem_of_getElem? (i := 189) (by decide +kernel)) rfl⟩
theorem fl_RX8_9 : Fl RX8 9 8 5 := ⟨_, okX8, by decide, gtb_in (List.mem_of_getElem? (i := 192) (by decide +kernel)) rfl⟩
theorem fl_RX9_19 : Fl RX9 19 9 2 := ⟨_, okX9, by decide, gtb_in (List.mem_of_getElem? (i := 433) (by decide +kernel)) rfl⟩
theorem fl_RX9_9 : Fl RX9 9 9 3 := ⟨_, okX9, by decide, gtb_in (List.mem_of_getElem? (i := 434) (by decide +kernel)) rfl⟩
theorem fl_RX10_113 : Fl RX10 113 8 3 := ⟨_, okX8, by decide, gtb_in (List.mem_of_getElem? (i := 187) (by decide +kernel)) rfl⟩
theorem fl_RX10_15 : Fl RX10 15 10 1 := ⟨_, okX10, by decide, gtb_in (List.mem_of_getElem? (i := 291) (by decide +kernel)) rfl⟩
theorem fl_RX10_169 : Fl RX10 169 5 5 := ⟨_, okX5, by decide, gtb_in (List.mem_of_getElem? (i := 250) (by decide +kernel)) rfl⟩
theorem fl_RX10_172 : Fl RX10 172 8 5 := ⟨_, okX8, by decide, gtb_in (List.mem_of_getElem? (i := 195) (by decide +kernel)) rfl⟩
theorem fl_RX10_22 : Fl RX10 22 10 2 := ⟨_, okX10, by decide, gtb_in (List.mem_of_getElem? (i := 294) (by decide +kernel)) rfl⟩
theorem fl_RX10_26 : Fl RX10 26 8 1 := ⟨_, okX8, by decide, gtb_in (List.mem_of_getElem? (i := 178) (by decide +kernel)) rfl⟩
theorem fl_RX10_32 : Fl RX10 32 8 0 := ⟨_, okX8, by decide, gtb_in (List.mem_of_getElem? (i := 173) (by decide +kernel)) rfl⟩
theorem fl_RX10_39 : Fl RX10 39 5 4 := ⟨_, okX5, by decide, gtb_in (List.mem_of_getElem? (i := 246) (by decide +kernel)) rfl⟩
theorem fl_RX10_49 : Fl RX10 49 0 0 := ⟨_, okX0, by decide, gtb_in (List.mem_of_getElem? (i := 272) (by decide +kernel)) rfl⟩
theorem fl_RX10_54 : Fl RX10 54 8 6 := ⟨_, okX8, by decide, gtb_in (List.mem_of_getElem? (i := 199) (by decide +kernel)) rfl⟩
theorem fl_RX10_57 : Fl RX10 57 5 1 := ⟨_, okX5, by decide, gtb_in (List.mem_of_getElem? (i := 237) (by decide +kernel)) rfl⟩
theorem fl_RX10_69 : Fl RX10 69 5 0 := ⟨_, okX5, by decide, gtb_in (List.mem_of_getElem? (i := 232) (by decide +kernel)) rfl⟩
theorem fl_RX10_76 : Fl RX10 76 8 7 := ⟨_, okX8, by decide, gtb_in (List.mem_of_getElem? (i := 202) (by decide +kernel)) rfl⟩
theorem fl_RX10_84 : Fl RX10 84 5 3 := ⟨_, okX5, by decide, gtb_in (List.mem_of_getElem? (i := 244) (by decide +kernel)) rfl⟩
theorem fl_RX10_9 : Fl RX10 9 10 0 := ⟨_, okX10, by decide, gtb_in (List.mem_of_getElem? (i := 288) (by decide +kernel)) rfl⟩
theorem fl_RX10_91 : Fl RX10 91 8 8 := ⟨_, okX8, by decide, gtb_in (List.mem_of_getElem? (i := 205) (by decide +kernel)) rfl⟩
theorem fl_RX10_98 : Fl RX10 98 5 2 := ⟨_, okX5, by decide, gtb_in (List.mem_of_getElem? (i := 240) (by decide +kernel)) rfl⟩
theorem fl_RX11_101 : Fl RX11 101 7 8 := ⟨_, okX7, by decide, gtb_in (List.mem_of_getElem? (i := 322) (by decide +kernel)) rfl⟩
theorem fl_RX11_108 : Fl RX11 108 10 2 := ⟨_, okX10, by decide, gtb_in (List.mem_of_getElem? (i := 296) (by decide +kernel)) rfl⟩
theorem fl_RX11_117 : Fl RX11 117 8 4 := ⟨_, okX8, by decide, gtb_in (List.mem_of_getElem? (i := 191) (by decide +kernel)) rfl⟩
theorem fl_RX11_120 : Fl RX11 120 7 9 := ⟨_, okX7, by decide, gtb_in (List.mem_of_getElem? (i := 324) (by decide +kernel)) rfl⟩
theorem fl_RX11_127 : Fl RX11 127 5 1 := ⟨_, okX5, by decide, gtb_in (List.mem_of_getElem? (i := 236) (by decide +kernel)) rfl⟩
theorem fl_RX11_131 : Fl RX11 131 8 6 := ⟨_, okX8, by decide, gtb_in (List.mem_of_getElem? (i := 198) (by decide +kernel)) rfl⟩
theorem fl_RX11_134 : Fl RX11 134 5 3 := ⟨_, okX5, by decide, gtb_in (List.mem_of_getElem? (i := 243) (by decide +kernel)) rfl⟩
theorem fl_RX11_137 : Fl RX11 137 5 2 := ⟨_, okX5, by decide, gtb_in (List.mem_of_getElem? (i := 239) (by decide +kernel)) rfl⟩
theorem fl_RX11_147 : Fl RX11 147 5 5 := ⟨_, okX5, by decide, gtb_in (List.mem_of_getElem? (i := 249) (by decide +kernel)) rfl⟩
theorem fl_RX11_150 : Fl RX11 150 8 5 := ⟨_, okX8, by decide, gtb_in (List.mem_of_getElem? (i := 194) (by decide +kernel)) rfl⟩
theorem fl_RX11_153 : Fl RX11 153 5 4 := ⟨_, okX5, by decide, gtb_in (List.mem_of_getElem? (i := 247) (by decide +kernel)) rfl⟩
theorem fl_RX11_16 : Fl RX11 16 11 3 := ⟨_, okX11, by decide, gtb_in (List.mem_of_getElem? (i := 451) (by decide +kernel)) rfl⟩
theorem fl_RX11_170 : Fl RX11 170 10 1 := ⟨_, okX10, by decide, gtb_in (List.mem_of_getElem? (i := 293) (by decide +kernel)) rfl⟩
theorem fl_RX11_174 : Fl RX11 174 0 0 := ⟨_, okX0, by decide, gtb_in (List.mem_of_getElem? (i := 273) (by decide +kernel)) rfl⟩
theorem fl_RX11_20 : Fl RX11 20 11 4 := ⟨_, okX11, by decide, gtb_in (List.mem_of_getElem? (i := 452) (by decide +kernel)) rfl⟩
theorem fl_RX11_216 : Fl RX11 216 2 2 := ⟨_, okX2, by decide, gtb_in (List.mem_of_getElem? (i := 358) (by decide +kernel)) rfl⟩
theorem fl_RX11_226 : Fl RX11 226 9 0 := ⟨_, okX9, by decide, gtb_in (List.mem_of_getElem? (i := 430) (by decide +kernel)) rfl⟩
theorem fl_RX11_234 : Fl RX11 234 10 3 := ⟨_, okX10, by decide, gtb_in (List.mem_of_getElem? (i := 297) (by decide +kernel)) rfl⟩
theorem fl_RX11_246 : Fl RX11 246 8 0 := ⟨_, okX8, by decide, gtb_in (List.mem_of_getElem? (i := 175) (by decide +kernel)) rfl⟩
theorem fl_RX11_249 : Fl RX11 249 8 1 := ⟨_, okX8, by decide, gtb_in (List.mem_of_getElem? (i := 180) (by decide +kernel)) rfl⟩
theorem fl_RX11_252 : Fl RX11 252 11 2 := ⟨_, okX11, by decide, gtb_in (List.mem_of_getElem? (i := 450) (by decide +kernel)) rfl⟩
theorem fl_RX11_26 : Fl RX11 26 11 5 := ⟨_, okX11, by decide, gtb_in (List.mem_of_getElem? (i := 453) (by decide +kernel)) rfl⟩
theorem fl_RX11_296 : Fl RX11 296 6 5 := ⟨_, okX6, by decide, gtb_in (List.mem_of_getElem? (i := 378) (by decide +kernel)) rfl⟩
theorem fl_RX11_325 : Fl RX11 325 1 6 := ⟨_, okX1, by decide, gtb_in (List.mem_of_getElem? (i := 406) (by decide +kernel)) rfl⟩
theorem fl_RX11_348 : Fl RX11 348 9 1 := ⟨_, okX9, by decide, gtb_in (List.mem_of_getElem? (i := 432) (by decide +kernel)) rfl⟩
theorem fl_RX11_353 : Fl RX11 353 9 3 := ⟨_, okX9, by decide, gtb_in (List.mem_of_getElem? (i := 435) (by decide +kernel)) rfl⟩
theorem fl_RX11_372 : Fl RX11 372 5 0 := ⟨_, okX5, by decide, gtb_in (List.mem_of_getElem? (i := 233) (by decide +kernel)) rfl⟩
theorem fl_RX11_375 : Fl RX11 375 8 2 := ⟨_, okX8, by decide, gtb_in (List.mem_of_getElem? (i := 184) (by decide +kernel)) rfl⟩
theorem fl_RX11_378 : Fl RX11 378 8 3 := ⟨_, okX8, by decide, gtb_in (List.mem_of_getElem? (i := 188) (by decide +kernel)) rfl⟩
theorem fl_RX11_38 : Fl RX11 38 11 6 := ⟨_, okX11, by decide, gtb_in (List.mem_of_getElem? (i := 454) (by decide +kernel)) rfl⟩
theorem fl_RX11_42 : Fl RX11 42 11 7 := ⟨_, okX11, by decide, gtb_in (List.mem_of_getElem? (i := 455) (by decide +kernel)) rfl⟩
theorem fl_RX11_50 : Fl RX11 50 11 8 := ⟨_, okX11, by decide, gtb_in (List.mem_of_getElem? (i := 456) (by decide +kernel)) rfl⟩
theorem fl_RX11_57 : Fl RX11 57 11 9 := ⟨_, okX11, by decide, gtb_in (List.mem_of_getElem? (i := 457) (by decide +kernel)) rfl⟩
theorem fl_RX11_64 : Fl RX11 64 11 10 := ⟨_, okX11, by decide, gtb_in (List.mem_of_getElem? (i := 458) (by decide +kernel)) rfl⟩
theorem fl_RX11_73 : Fl RX11 73 11 11 := ⟨_, okX11, by decide, gtb_in (List.mem_of_getElem? (i := 459) (by decide +kernel)) rfl⟩
theorem fl_RX11_79 : Fl RX11 79 11 12 := ⟨_, okX11, by decide, gtb_in (List.mem_of_getElem? (i := 460) (by decide +kernel)) rfl⟩
theorem fl_RX11_9 : Fl RX11 9 11 0 := ⟨_, okX11, by decide, gtb_in (List.mem_of_getElem? (i := 448) (by decide +kernel)) rfl⟩
theorem fl_RX11_90 : Fl RX11 90 11 1 := ⟨_, okX11, by decide, gtb_in (List.mem_of_getElem? (i := 449) (by decide +kernel)) rfl⟩
theorem fl_RX12_112 : Fl RX12 112 12 10 := ⟨_, okX12, by decide, gtb_in (List.mem_of_getElem? (i := 1307) (by decide +kernel)) rfl⟩
theorem fl_RX12_117 : Fl RX12 117 12 11 := ⟨_, okX12, by decide, gtb_in (List.mem_of_getElem? (i := 1308) (by decide +kernel)) rfl⟩
theorem fl_RX12_120 : Fl RX12 120 12 12 := ⟨_, okX12, by decide, gtb_in (List.mem_of_getElem? (i := 1309) (by decide +kernel)) rfl⟩
theorem fl_RX12_13 : Fl RX12 13 12 1 := ⟨_, okX12, by decide, gtb_in (List.mem_of_getElem? (i := 1298) (by decide +kernel)) rfl⟩
theorem fl_RX12_17 : Fl RX12 17 12 2 := ⟨_, okX12, by decide, gtb_in (List.mem_of_getElem? (i := 1299) (by decide +kernel)) rfl⟩
theorem fl_RX12_191 : Fl RX12 191 12 13 := ⟨_, okX12, by decide, gtb_in (List.mem_of_getElem? (i := 1310) (by decide +kernel)) rfl⟩
theorem fl_RX12_21 : Fl RX12 21 12 3 := ⟨_, okX12, by decide, gtb_in (List.mem_of_getElem? (i := 1300) (by decide +kernel)) rfl⟩
theorem fl_RX12_24 : Fl RX12 24 12 4 := ⟨_, okX12, by decide, gtb_in (List.mem_of_getElem? (i := 1301) (by decide +kernel)) rfl⟩
theorem fl_RX12_27 : Fl RX12 27 12 14 := ⟨_, okX12, by decide, gtb_in (List.mem_of_getElem? (i := 1311) (by decide +kernel)) rfl⟩
theorem fl_RX12_284 : Fl RX12 284 12 19 := ⟨_, okX12, by decide, gtb_in (List.mem_of_getElem? (i := 1316) (by decide +kernel)) rfl⟩
theorem fl_RX12_30 : Fl RX12 30 12 15 := ⟨_, okX12, by decide, gtb_in (List.mem_of_getElem? (i := 1312) (by decide +kernel)) rfl⟩
theorem fl_RX12_305 : Fl RX12 305 12 20 := ⟨_, okX12, by decide, gtb_in (List.mem_of_getElem? (i := 1317) (by decide +kernel)) rfl⟩
theorem fl_RX12_323 : Fl RX12 323 12 28 := ⟨_, okX12, by decide, gtb_in (List.mem_of_getElem? (i := 1325) (by decide +kernel)) rfl⟩
theorem fl_RX12_327 : Fl RX12 327 12 25 := ⟨_, okX12, by decide, gtb_in (List.mem_of_getElem? (i := 1322) (by decide +kernel)) rfl⟩
theorem fl_RX12_33 : Fl RX12 33 12 16 := ⟨_, okX12, by decide, gtb_in (List.mem_of_getElem? (i := 1313) (by decide +kernel)) rfl⟩
theorem fl_RX12_330 : Fl RX12 330 12 27 := ⟨_, okX12, by decide, gtb_in (List.mem_of_getElem? (i := 1324) (by decide +kernel)) rfl⟩
theorem fl_RX12_341 : Fl RX12 341 12 26 := ⟨_, okX12, by decide, gtb_in (List.mem_of_getElem? (i := 1323) (by decide +kernel)) rfl⟩
theorem fl_RX12_36 : Fl RX12 36 12 17 := ⟨_, okX12, by decide, gtb_in (List.mem_of_getElem? (i := 1314) (by decide +kernel)) rfl⟩
theorem fl_RX12_39 : Fl RX12 39 12 18 := ⟨_, okX12, by decide, gtb_in (List.mem_of_getElem? (i := 1315) (by decide +kernel)) rfl⟩
theorem fl_RX12_42 : Fl RX12 42 12 21 := ⟨_, okX12, by decide, gtb_in (List.mem_of_getElem? (i := 1318) (by decide +kernel)) rfl⟩
theorem fl_RX12_45 : Fl RX12 45 12 22 := ⟨_, okX12, by decide, gtb_in (List.mem_of_getElem? (i := 1319) (by decide +kernel)) rfl⟩
theorem fl_RX12_48 : Fl RX12 48 12 23 := ⟨_, okX12, by decide, gtb_in (List.mem_of_getElem? (i := 1320) (by decide +kernel)) rfl⟩
theorem fl_RX12_51 : Fl RX12 51 12 24 := ⟨_, okX12, by decide, gtb_in (List.mem_of_getElem? (i := 1321) (by decide +kernel)) rfl⟩
theorem fl_RX12_54 : Fl RX12 54 12 29 := ⟨_, okX12, by decide, gtb_in (List.mem_of_getElem? (i := 1326) (by decide +kernel)) rfl⟩
theorem fl_RX12_57 : Fl RX12 57 12 30 := ⟨_, okX12, by decide, gtb_in (List.mem_of_getElem? (i := 1327) (by decide +kernel)) rfl⟩
theorem fl_RX12_60 : Fl RX12 60 12 31 := ⟨_, okX12, by decide, gtb_in (List.mem_of_getElem? (i := 1328) (by decide +kernel)) rfl⟩
theorem fl_RX12_63 : Fl RX12 63 12 32 := ⟨_, okX12, by decide, gtb_in (List.mem_of_getElem? (i := 1329) (by decide +kernel)) rfl⟩
theorem fl_RX12_71 : Fl RX12 71 12 5 := ⟨_, okX12, by decide, gtb_in (List.mem_of_getElem? (i := 1302) (by decide +kernel)) rfl⟩
theorem fl_RX12_74 : Fl RX12 74 12 8 := ⟨_, okX12, by decide, gtb_in (List.mem_of_getElem? (i := 1305) (by decide +kernel)) rfl⟩
theorem fl_RX12_89 : Fl RX12 89 12 6 := ⟨_, okX12, by decide, gtb_in (List.mem_of_getElem? (i := 1303) (by decide +kernel)) rfl⟩
theorem fl_RX12_92 : Fl RX12 92 12 7 := ⟨_, okX12, by decide, gtb_in (List.mem_of_getElem? (i := 1304) (by decide +kernel)) rfl⟩
theorem fl_RX12_99 : Fl RX12 99 12 9 := ⟨_, okX12, by decide, gtb_in (List.mem_of_getElem? (i := 1306) (by decide +kernel)) rfl⟩
theorem fp_RX1_22 : Fp RX1 22 1 1 .int false := ⟨_, okX1, by decide, gtb_in (List.mem_of_getElem? (i := 400) (by decide +kernel)) rfl, rfl, by decide +kernel, rfl⟩
theorem fp_RX1_26 : Fp RX1 26 1 2 .int false := ⟨_, okX1, by decide, gtb_in (List.mem_of_getElem? (i := 401) (by decide +kernel)) rfl, rfl, by decide +kernel, rfl⟩
theorem fp_RX1_49 : Fp RX1 49 1 3 .int false := ⟨_, okX1, by decide, gtb_in (List.mem_of_getElem? (i := 402) (by decide +kernel)) rfl, rfl, by decide +kernel, rfl⟩
theorem fp_RX1_85 : Fp RX1 85 1 6 .int false := ⟨_, okX1, by decide, gtb_in (List.mem_of_getElem? (i := 405) (by decide +kernel)) rfl, rfl, by decide +kernel, rfl⟩
theorem fp_RX2_18 : Fp RX2 18 2 2 .int false := ⟨_, okX2, by decide, gtb_in (List.mem_of_getElem? (i := 357) (by decide +kernel)) rfl, rfl, by decide +kernel, rfl⟩
theorem fp_RX2_22 : Fp RX2 22 2 1 .int false := ⟨_, okX2, by decide, gtb_in (List.mem_of_getElem? (i := 356) (by decide +kernel)) rfl, rfl, by decide +kernel, rfl⟩
theorem fp_RX4_15 : Fp RX4 15 4 1 .int false := ⟨_, okX4, by decide, gtb_in (List.mem_of_getElem? (i := 150) (by decide +kernel)) rfl, rfl, by decide +kernel, rfl⟩
theorem fp_RX5_27 : Fp RX5 27 5 0 .int false := ⟨_, okX5, by decide, gtb_in (List.mem_of_getElem? (i := 231) (by decide +kernel)) rfl, rfl, by decide +kernel, rfl⟩
theorem fp_RX6_40 : Fp RX6 40 6 0 .int false := ⟨_, okX6, by decide, gtb_in (List.mem_of_getElem? (i := 372) (by decide +kernel)) rfl, rfl, by decide +kernel, rfl⟩
theorem fp_RX7_111 : Fp RX7 111 8 2 .int false := ⟨_, okX8, by decide, gtb_in (List.mem_of_getElem? (i := 182) (by decide +kernel)) rfl, rfl, by decide +kernel, rfl⟩
theorem fp_RX7_115 : Fp RX7 115 8 3 .int false := ⟨_, okX8, by decide, gtb_in (List.mem_of_getElem? (i := 186) (by decide +kernel)) rfl, rfl, by decide +kernel, rfl⟩
theorem fp_RX7_120 : Fp RX7 120 8 0 .int false := ⟨_, okX8, by decide, gtb_in (List.mem_of_getElem? (i := 174) (by decide +kernel)) rfl, rfl, by decide +kernel, rfl⟩
theorem fp_RX7_131 : Fp RX7 131 8 1 .int false := ⟨_, okX8, by decide, gtb_in (List.mem_of_getElem? (i := 179) (by decide +kernel)) rfl, rfl, by decide +kernel, rfl⟩
theorem fp_RX7_207 : Fp RX7 207 7 6 .int false := ⟨_, okX7, by decide, gtb_in (List.mem_of_getElem? (i := 319) (by decide +kernel)) rfl, rfl, by decide +kernel, rfl⟩
theorem fp_RX7_29 : Fp RX7 29 7 3 (.object "LoatheMatch$Law") false := ⟨_, okX7, by decide, gtb_in (List.mem_of_getElem? (i := 316) (by decide +kernel)) rfl, rfl, by decide +kernel, rfl⟩
theorem fp_RX7_32 : Fp RX7 32 7 9 .int false := ⟨_, okX7, by decide, gtb_in (List.mem_of_getElem? (i := 323) (by decide +kernel)) rfl, rfl, by decide +kernel, rfl⟩
theorem fp_RX7_42 : Fp RX7 42 7 4 .int false := ⟨_, okX7, by decide, gtb_in (List.mem_of_getElem? (i := 317) (by decide +kernel)) rfl, rfl, by decide +kernel, rfl⟩
theorem fp_RX7_45 : Fp RX7 45 7 8 .int false := ⟨_, okX7, by decide, gtb_in (List.mem_of_getElem? (i := 321) (by decide +kernel)) rfl, rfl, by decide +kernel, rfl⟩
theorem fp_RX7_54 : Fp RX7 54 7 7 .int false := ⟨_, okX7, by decide, gtb_in (List.mem_of_getElem? (i := 320) (by decide +kernel)) rfl, rfl, by decide +kernel, rfl⟩
theorem fp_RX7_60 : Fp RX7 60 7 5 .int false := ⟨_, okX7, by decide, gtb_in (List.mem_of_getElem? (i := 318) (by decide +kernel)) rfl, rfl, by decide +kernel, rfl⟩
theorem fp_RX7_71 : Fp RX7 71 8 4 .int false := ⟨_, okX8, by decide, gtb_in (List.mem_of_getElem? (i := 190) (by decide +kernel)) rfl, rfl, by decide +kernel, rfl⟩
theorem fp_RX7_90 : Fp RX7 90 4 1 .int false := ⟨_, okX4, by decide, gtb_in (List.mem_of_getElem? (i := 152) (by decide +kernel)) rfl, rfl, by decide +kernel, rfl⟩
theorem fp_RX8_28 : Fp RX8 28 8 2 .int false := ⟨_, okX8, by decide, gtb_in (List.mem_of_getElem? (i := 181) (by decide +kernel)) rfl, rfl, by decide +kernel, rfl⟩
theorem fp_RX8_32 : Fp RX8 32 8 3 .int false := ⟨_, okX8, by decide, gtb_in (List.mem_of_getElem? (i := 185) (by decide +kernel)) rfl, rfl, by decide +kernel, rfl⟩
theorem fp_RX8_38 : Fp RX8 38 8 0 .int false := ⟨_, okX8, by decide, gtb_in (List.mem_of_getElem? (i := 171) (by decide +kernel)) rfl, rfl, by decide +kernel, rfl⟩
theorem fp_RX8_41 : Fp RX8 41 8 1 .int false := ⟨_, okX8, by decide, gtb_in (List.mem_of_getElem? (i := 177) (by decide +kernel)) rfl, rfl, by decide +kernel, rfl⟩
theorem fp_RX8_44 : Fp RX8 44 8 4 .int false := ⟨_, okX8, by decide, gtb_in (List.mem_of_getElem? (i := 189) (by decide +kernel)) rfl, rfl, by decide +kernel, rfl⟩
theorem fp_RX8_47 : Fp RX8 47 4 1 .int false := ⟨_, okX4, by decide, gtb_in (List.mem_of_getElem? (i := 151) (by decide +kernel)) rfl, rfl, by decide +kernel, rfl⟩
theorem fp_RX9_15 : Fp RX9 15 9 0 .boolean false := ⟨_, okX9, by decide, gtb_in (List.mem_of_getElem? (i := 429) (by decide +kernel)) rfl, rfl, by decide +kernel, rfl⟩
theorem fp_RX9_19 : Fp RX9 19 9 2 .int false := ⟨_, okX9, by decide, gtb_in (List.mem_of_getElem? (i := 433) (by decide +kernel)) rfl, rfl, by decide +kernel, rfl⟩
theorem fp_RX9_23 : Fp RX9 23 9 1 .int false := ⟨_, okX9, by decide, gtb_in (List.mem_of_getElem? (i := 431) (by decide +kernel)) rfl, rfl, by decide +kernel, rfl⟩
theorem fp_RX10_69 : Fp RX10 69 5 0 .int false := ⟨_, okX5, by decide, gtb_in (List.mem_of_getElem? (i := 232) (by decide +kernel)) rfl, rfl, by decide +kernel, rfl⟩
theorem fp_RX11_234 : Fp RX11 234 10 3 .int false := ⟨_, okX10, by decide, gtb_in (List.mem_of_getElem? (i := 297) (by decide +kernel)) rfl, rfl, by decide +kernel, rfl⟩
theorem fp_RX11_252 : Fp RX11 252 11 2 .int false := ⟨_, okX11, by decide, gtb_in (List.mem_of_getElem? (i := 450) (by decide +kernel)) rfl, rfl, by decide +kernel, rfl⟩
theorem fp_RX11_90 : Fp RX11 90 11 1 .int false := ⟨_, okX11, by decide, gtb_in (List.mem_of_getElem? (i := 449) (by decide +kernel)) rfl, rfl, by decide +kernel, rfl⟩
theorem fp_RX12_1 : Fp RX12 1 12 0 .int false := ⟨_, okX12, by decide, gtb_in (List.mem_of_getElem? (i := 1297) (by decide +kernel)) rfl, rfl, by decide +kernel, rfl⟩
theorem fp_RX12_112 : Fp RX12 112 12 10 .int false := ⟨_, okX12, by decide, gtb_in (List.mem_of_getElem? (i := 1307) (by decide +kernel)) rfl, rfl, by decide +kernel, rfl⟩
theorem fp_RX12_117 : Fp RX12 117 12 11 .int false := ⟨_, okX12, by decide, gtb_in (List.mem_of_getElem? (i := 1308) (by decide +kernel)) rfl, rfl, by decide +kernel, rfl⟩
theorem fp_RX12_120 : Fp RX12 120 12 12 .int false := ⟨_, okX12, by decide, gtb_in (List.mem_of_getElem? (i := 1309) (by decide +kernel)) rfl, rfl, by decide +kernel, rfl⟩
theorem fp_RX12_191 : Fp RX12 191 12 13 .int false := ⟨_, okX12, by decide, gtb_in (List.mem_of_getElem? (i := 1310) (by decide +kernel)) rfl, rfl, by decide +kernel, rfl⟩
theorem fp_RX12_27 : Fp RX12 27 12 14 .int false := ⟨_, okX12, by decide, gtb_in (List.mem_of_getElem? (i := 1311) (by decide +kernel)) rfl, rfl, by decide +kernel, rfl⟩
theorem fp_RX12_284 : Fp RX12 284 12 19 .int false := ⟨_, okX12, by decide, gtb_in (List.mem_of_getElem? (i := 1316) (by decide +kernel)) rfl, rfl, by decide +kernel, rfl⟩
theorem fp_RX12_305 : Fp RX12 305 12 20 .int false := ⟨_, okX12, by decide, gtb_in (List.mem_of_getElem? (i := 1317) (by decide +kernel)) rfl, rfl, by decide +kernel, rfl⟩
theorem fp_RX12_323 : Fp RX12 323 12 28 .boolean false := ⟨_, okX12, by decide, gtb_in (List.mem_of_getElem? (i := 1325) (by decide +kernel)) rfl, rfl, by decide +kernel, rfl⟩
theorem fp_RX12_327 : Fp RX12 327 12 25 .int false := ⟨_, okX12, by decide, gtb_in (List.mem_of_getElem? (i := 1322) (by decide +kernel)) rfl, rfl, by decide +kernel, rfl⟩
theorem fp_RX12_330 : Fp RX12 330 12 27 .int false := ⟨_, okX12, by decide, gtb_in (List.mem_of_getElem? (i := 1324) (by decide +kernel)) rfl, rfl, by decide +kernel, rfl⟩
theorem fp_RX12_341 : Fp RX12 341 12 26 .int false := ⟨_, okX12, by decide, gtb_in (List.mem_of_getElem? (i := 1323) (by decide +kernel)) rfl, rfl, by decide +kernel, rfl⟩
theorem fp_RX12_71 : Fp RX12 71 12 5 .int false := ⟨_, okX12, by decide, gtb_in (List.mem_of_getElem? (i := 1302) (by decide +kernel)) rfl, rfl, by decide +kernel, rfl⟩
theorem fp_RX12_74 : Fp RX12 74 12 8 .int false := ⟨_, okX12, by decide, gtb_in (List.mem_of_getElem? (i := 1305) (by decide +kernel)) rfl, rfl, by decide +kernel, rfl⟩
theorem fp_RX12_89 : Fp RX12 89 12 6 .int false := ⟨_, okX12, by decide, gtb_in (List.mem_of_getElem? (i := 1303) (by decide +kernel)) rfl, rfl, by decide +kernel, rfl⟩
theorem fp_RX12_92 : Fp RX12 92 12 7 .int false := ⟨_, okX12, by decide, gtb_in (List.mem_of_getElem? (i := 1304) (by decide +kernel)) rfl, rfl, by decide +kernel, rfl⟩
theorem fp_RX12_99 : Fp RX12 99 12 9 .int false := ⟨_, okX12, by decide, gtb_in (List.mem_of_getElem? (i := 1306) (by decide +kernel)) rfl, rfl, by decide +kernel, rfl⟩
theorem sf_RJ0_1053 : Cond.fieldLink RJ0 1053 "jdk/internal/util/Preconditions" "SIOOBE_FORMATTER" "Ljava/util/function/BiFunction;" ∈ gtb := gtb_in (List.mem_of_getElem? (i := 582) (by decide +kernel)) rfl
theorem sf_RJ0_15 : Cond.fieldLink RJ0 15 "java/lang/String" "coder" "B" ∈ gtb := gtb_in (List.mem_of_getElem? (i := 1864) (by decide +kernel)) rfl
theorem sf_RJ0_38 : Cond.fieldLink RJ0 38 "java/lang/String" "COMPACT_STRINGS" "Z" ∈ gtb := gtb_in (List.mem_of_getElem? (i := 541) (by decide +kernel)) rfl
theorem sf_RJ0_9 : Cond.fieldLink RJ0 9 "java/lang/String" "value" "[B" ∈ gtb := gtb_in (List.mem_of_getElem? (i := 1865) (by decide +kernel)) rfl
theorem ml_RX0_25 : Cond.methodLink RX0 25 yX0_join ∈ gtb := gtb_in (List.mem_of_getElem? (i := 833) (by decide +kernel)) rfl
theorem ml_RX0_29 : Cond.methodLink RX0 29 yX0_keepWithin ∈ gtb := gtb_in (List.mem_of_getElem? (i := 836) (by decide +kernel)) rfl
theorem ml_RX1_52 : Cond.methodLink RX1 52 yX1_effect ∈ gtb := gtb_in (List.mem_of_getElem? (i := 1159) (by decide +kernel)) rfl
theorem ml_RX1_56 : Cond.methodLink RX1 56 yX1_findAlike ∈ gtb := gtb_in (List.mem_of_getElem? (i := 1164) (by decide +kernel)) rfl
theorem ml_RX1_59 : Cond.methodLink RX1 59 yJ6_bitCount_0f7a4 ∈ gtb := gtb_in (List.mem_of_getElem? (i := 1168) (by decide +kernel)) rfl
theorem ml_RX1_64 : Cond.methodLink RX1 64 yX1_seek ∈ gtb := gtb_in (List.mem_of_getElem? (i := 1169) (by decide +kernel)) rfl
theorem ml_RX1_68 : Cond.methodLink RX1 68 yX10_measure ∈ gtb := gtb_in (List.mem_of_getElem? (i := 1163) (by decide +kernel)) rfl
theorem ml_RX1_81 : Cond.methodLink RX1 81 yX1_reachesBar ∈ gtb := gtb_in (List.mem_of_getElem? (i := 1173) (by decide +kernel)) rfl
theorem ml_RX1_88 : Cond.methodLink RX1 88 yX10_goodnessWith ∈ gtb := gtb_in (List.mem_of_getElem? (i := 1177) (by decide +kernel)) rfl
theorem ml_RX2_25 : Cond.methodLink RX2 25 yX5_become ∈ gtb := gtb_in (List.mem_of_getElem? (i := 866) (by decide +kernel)) rfl
theorem ml_RX4_19 : Cond.methodLink RX4 19 arraycopyName ∈ gtb := gtb_in (List.mem_of_getElem? (i := 747) (by decide +kernel)) rfl
theorem ml_RX5_31 : Cond.methodLink RX5 31 arraycopyName ∈ gtb := gtb_in (List.mem_of_getElem? (i := 752) (by decide +kernel)) rfl
theorem ml_RX5_37 : Cond.methodLink RX5 37 yX5_has ∈ gtb := gtb_in (List.mem_of_getElem? (i := 911) (by decide +kernel)) rfl
theorem ml_RX5_41 : Cond.methodLink RX5 41 yX5_adopt ∈ gtb := gtb_in (List.mem_of_getElem? (i := 912) (by decide +kernel)) rfl
theorem ml_RX5_45 : Cond.methodLink RX5 45 yX5_drop ∈ gtb := gtb_in (List.mem_of_getElem? (i := 913) (by decide +kernel)) rfl
theorem ml_RX6_41 : Cond.methodLink RX6 41 yX10_goodness ∈ gtb := gtb_in (List.mem_of_getElem? (i := 1020) (by decide +kernel)) rfl
theorem ml_RX6_45 : Cond.methodLink RX6 45 yX10_isAllowed ∈ gtb := gtb_in (List.mem_of_getElem? (i := 1021) (by decide +kernel)) rfl
theorem ml_RX6_49 : Cond.methodLink RX6 49 yX6_choose ∈ gtb := gtb_in (List.mem_of_getElem? (i := 1051) (by decide +kernel)) rfl
theorem ml_RX6_53 : Cond.methodLink RX6 53 yJ6_numberOfTrailingZeros_0f7a4 ∈ gtb := gtb_in (List.mem_of_getElem? (i := 1030) (by decide +kernel)) rfl
theorem ml_RX6_60 : Cond.methodLink RX6 60 yX6_isOpen ∈ gtb := gtb_in (List.mem_of_getElem? (i := 1032) (by decide +kernel)) rfl
theorem ml_RX6_64 : Cond.methodLink RX6 64 yX6_leaveAlone ∈ gtb := gtb_in (List.mem_of_getElem? (i := 1061) (by decide +kernel)) rfl
theorem ml_RX6_67 : Cond.methodLink RX6 67 yX6_follow ∈ gtb := gtb_in (List.mem_of_getElem? (i := 1150) (by decide +kernel)) rfl
theorem ml_RX6_70 : Cond.methodLink RX6 70 yX6_tally ∈ gtb := gtb_in (List.mem_of_getElem? (i := 1031) (by decide +kernel)) rfl
theorem ml_RX6_73 : Cond.methodLink RX6 73 yX6_firstBreak ∈ gtb := gtb_in (List.mem_of_getElem? (i := 1082) (by decide +kernel)) rfl
theorem ml_RX6_77 : Cond.methodLink RX6 77 yX6_settle ∈ gtb := gtb_in (List.mem_of_getElem? (i := 1086) (by decide +kernel)) rfl
theorem ml_RX6_81 : Cond.methodLink RX6 81 yX6_goodNow ∈ gtb := gtb_in (List.mem_of_getElem? (i := 1069) (by decide +kernel)) rfl
theorem ml_RX7_103 : Cond.methodLink RX7 103 yX7_readTruth ∈ gtb := gtb_in (List.mem_of_getElem? (i := 715) (by decide +kernel)) rfl
theorem ml_RX7_108 : Cond.methodLink RX7 108 yX7_readNumber ∈ gtb := gtb_in (List.mem_of_getElem? (i := 652) (by decide +kernel)) rfl
theorem ml_RX7_117 : Cond.methodLink RX7 117 yX7_refuse ∈ gtb := gtb_in (List.mem_of_getElem? (i := 656) (by decide +kernel)) rfl
theorem ml_RX7_123 : Cond.methodLink RX7 123 yX7_blame ∈ gtb := gtb_in (List.mem_of_getElem? (i := 647) (by decide +kernel)) rfl
theorem ml_RX7_136 : Cond.methodLink RX7 136 yX7_passWord ∈ gtb := gtb_in (List.mem_of_getElem? (i := 666) (by decide +kernel)) rfl
theorem ml_RX7_146 : Cond.methodLink RX7 146 yX7_readThings ∈ gtb := gtb_in (List.mem_of_getElem? (i := 671) (by decide +kernel)) rfl
theorem ml_RX7_152 : Cond.methodLink RX7 152 yX5_adopt ∈ gtb := gtb_in (List.mem_of_getElem? (i := 676) (by decide +kernel)) rfl
theorem ml_RX7_156 : Cond.methodLink RX7 156 yX7_readBoth ∈ gtb := gtb_in (List.mem_of_getElem? (i := 719) (by decide +kernel)) rfl
theorem ml_RX7_161 : Cond.methodLink RX7 161 yX4_add ∈ gtb := gtb_in (List.mem_of_getElem? (i := 701) (by decide +kernel)) rfl
theorem ml_RX7_165 : Cond.methodLink RX7 165 yX7_readUnit ∈ gtb := gtb_in (List.mem_of_getElem? (i := 723) (by decide +kernel)) rfl
theorem ml_RX7_172 : Cond.methodLink RX7 172 yX7_goDeeper ∈ gtb := gtb_in (List.mem_of_getElem? (i := 697) (by decide +kernel)) rfl
theorem ml_RX7_175 : Cond.methodLink RX7 175 yX7_comparison ∈ gtb := gtb_in (List.mem_of_getElem? (i := 728) (by decide +kernel)) rfl
theorem ml_RX7_178 : Cond.methodLink RX7 178 yX7_readTerm ∈ gtb := gtb_in (List.mem_of_getElem? (i := 689) (by decide +kernel)) rfl
theorem ml_RX7_181 : Cond.methodLink RX7 181 yX7_readAtom ∈ gtb := gtb_in (List.mem_of_getElem? (i := 693) (by decide +kernel)) rfl
theorem ml_RX7_184 : Cond.methodLink RX7 184 yX7_termWord ∈ gtb := gtb_in (List.mem_of_getElem? (i := 702) (by decide +kernel)) rfl
theorem ml_RX7_187 : Cond.methodLink RX7 187 yX4_ofTerm ∈ gtb := gtb_in (List.mem_of_getElem? (i := 713) (by decide +kernel)) rfl
theorem ml_RX7_210 : Cond.methodLink RX7 210 yJ0_length_8abf5 ∈ gtb := gtb_in (List.mem_of_getElem? (i := 622) (by decide +kernel)) rfl
theorem ml_RX7_214 : Cond.methodLink RX7 214 yJ0_charAt_5068e ∈ gtb := gtb_in (List.mem_of_getElem? (i := 623) (by decide +kernel)) rfl
theorem ml_RX7_218 : Cond.methodLink RX7 218 yX7_isLetter ∈ gtb := gtb_in (List.mem_of_getElem? (i := 522) (by decide +kernel)) rfl
theorem ml_RX7_221 : Cond.methodLink RX7 221 yX7_isDigit ∈ gtb := gtb_in (List.mem_of_getElem? (i := 525) (by decide +kernel)) rfl
theorem ml_RX7_226 : Cond.methodLink RX7 226 yJ0_indexOf_0f7a4 ∈ gtb := gtb_in (List.mem_of_getElem? (i := 529) (by decide +kernel)) rfl
theorem ml_RX7_36 : Cond.methodLink RX7 36 Lib.Math.min.name ∈ gtb := gtb_in (List.mem_of_getElem? (i := 507) (by decide +kernel)) rfl
theorem ml_RX7_48 : Cond.methodLink RX7 48 yX8_clear ∈ gtb := gtb_in (List.mem_of_getElem? (i := 510) (by decide +kernel)) rfl
theorem ml_RX7_51 : Cond.methodLink RX7 51 yX5_clear ∈ gtb := gtb_in (List.mem_of_getElem? (i := 514) (by decide +kernel)) rfl
theorem ml_RX7_57 : Cond.methodLink RX7 57 yX7_next ∈ gtb := gtb_in (List.mem_of_getElem? (i := 518) (by decide +kernel)) rfl
theorem ml_RX7_63 : Cond.methodLink RX7 63 yX7_readLine ∈ gtb := gtb_in (List.mem_of_getElem? (i := 613) (by decide +kernel)) rfl
theorem ml_RX7_67 : Cond.methodLink RX7 67 yX7_pass ∈ gtb := gtb_in (List.mem_of_getElem? (i := 681) (by decide +kernel)) rfl
theorem ml_RX7_76 : Cond.methodLink RX7 76 yX7_isWord ∈ gtb := gtb_in (List.mem_of_getElem? (i := 618) (by decide +kernel)) rfl
theorem ml_RX7_80 : Cond.methodLink RX7 80 yX7_readThing ∈ gtb := gtb_in (List.mem_of_getElem? (i := 643) (by decide +kernel)) rfl
theorem ml_RX7_85 : Cond.methodLink RX7 85 yX7_readPerson ∈ gtb := gtb_in (List.mem_of_getElem? (i := 661) (by decide +kernel)) rfl
theorem ml_RX7_95 : Cond.methodLink RX7 95 yX7_readSum ∈ gtb := gtb_in (List.mem_of_getElem? (i := 685) (by decide +kernel)) rfl
theorem ml_RX8_35 : Cond.methodLink RX8 35 yX8_setFirstLaws ∈ gtb := gtb_in (List.mem_of_getElem? (i := 160) (by decide +kernel)) rfl
theorem ml_RX8_52 : Cond.methodLink RX8 52 yX4_ofTerm ∈ gtb := gtb_in (List.mem_of_getElem? (i := 164) (by decide +kernel)) rfl
theorem ml_RX8_56 : Cond.methodLink RX8 56 yX4_add ∈ gtb := gtb_in (List.mem_of_getElem? (i := 167) (by decide +kernel)) rfl
theorem ml_RX8_60 : Cond.methodLink RX8 60 arraycopyName ∈ gtb := gtb_in (List.mem_of_getElem? (i := 740) (by decide +kernel)) rfl
theorem ml_RX8_66 : Cond.methodLink RX8 66 yX4_become ∈ gtb := gtb_in (List.mem_of_getElem? (i := 743) (by decide +kernel)) rfl
theorem ml_RX10_101 : Cond.methodLink RX10 101 yX10_isAllowed ∈ gtb := gtb_in (List.mem_of_getElem? (i := 861) (by decide +kernel)) rfl
theorem ml_RX10_104 : Cond.methodLink RX10 104 yX10_isThing ∈ gtb := gtb_in (List.mem_of_getElem? (i := 887) (by decide +kernel)) rfl
theorem ml_RX10_107 : Cond.methodLink RX10 107 yX5_has ∈ gtb := gtb_in (List.mem_of_getElem? (i := 888) (by decide +kernel)) rfl
theorem ml_RX10_110 : Cond.methodLink RX10 110 yX10_hasRoom ∈ gtb := gtb_in (List.mem_of_getElem? (i := 889) (by decide +kernel)) rfl
theorem ml_RX10_116 : Cond.methodLink RX10 116 yX5_drop ∈ gtb := gtb_in (List.mem_of_getElem? (i := 897) (by decide +kernel)) rfl
theorem ml_RX10_120 : Cond.methodLink RX10 120 yX5_adopt ∈ gtb := gtb_in (List.mem_of_getElem? (i := 901) (by decide +kernel)) rfl
theorem ml_RX10_126 : Cond.methodLink RX10 126 yX10_passYear ∈ gtb := gtb_in (List.mem_of_getElem? (i := 962) (by decide +kernel)) rfl
theorem ml_RX10_132 : Cond.methodLink RX10 132 yX10_attemptMarriage ∈ gtb := gtb_in (List.mem_of_getElem? (i := 964) (by decide +kernel)) rfl
theorem ml_RX10_135 : Cond.methodLink RX10 135 yX10_attemptTaking ∈ gtb := gtb_in (List.mem_of_getElem? (i := 971) (by decide +kernel)) rfl
theorem ml_RX10_138 : Cond.methodLink RX10 138 yX10_attemptCopy ∈ gtb := gtb_in (List.mem_of_getElem? (i := 977) (by decide +kernel)) rfl
theorem ml_RX10_141 : Cond.methodLink RX10 141 yX5_split ∈ gtb := gtb_in (List.mem_of_getElem? (i := 968) (by decide +kernel)) rfl
theorem ml_RX10_145 : Cond.methodLink RX10 145 yX10_whyNotMarry ∈ gtb := gtb_in (List.mem_of_getElem? (i := 969) (by decide +kernel)) rfl
theorem ml_RX10_148 : Cond.methodLink RX10 148 yX5_marry ∈ gtb := gtb_in (List.mem_of_getElem? (i := 970) (by decide +kernel)) rfl
theorem ml_RX10_151 : Cond.methodLink RX10 151 yX10_whyNotTake ∈ gtb := gtb_in (List.mem_of_getElem? (i := 975) (by decide +kernel)) rfl
theorem ml_RX10_154 : Cond.methodLink RX10 154 yX10_takeOrGive ∈ gtb := gtb_in (List.mem_of_getElem? (i := 976) (by decide +kernel)) rfl
theorem ml_RX10_157 : Cond.methodLink RX10 157 yX5_copyList ∈ gtb := gtb_in (List.mem_of_getElem? (i := 981) (by decide +kernel)) rfl
theorem ml_RX10_160 : Cond.methodLink RX10 160 yX10_growOlder ∈ gtb := gtb_in (List.mem_of_getElem? (i := 922) (by decide +kernel)) rfl
theorem ml_RX10_163 : Cond.methodLink RX10 163 yX10_exchange ∈ gtb := gtb_in (List.mem_of_getElem? (i := 926) (by decide +kernel)) rfl
theorem ml_RX10_166 : Cond.methodLink RX10 166 yX10_passYearOfTwo ∈ gtb := gtb_in (List.mem_of_getElem? (i := 1137) (by decide +kernel)) rfl
theorem ml_RX10_175 : Cond.methodLink RX10 175 yX10_wish ∈ gtb := gtb_in (List.mem_of_getElem? (i := 930) (by decide +kernel)) rfl
theorem ml_RX10_178 : Cond.methodLink RX10 178 yJ6_numberOfTrailingZeros_0f7a4 ∈ gtb := gtb_in (List.mem_of_getElem? (i := 934) (by decide +kernel)) rfl
theorem ml_RX10_181 : Cond.methodLink RX10 181 yX10_goodness ∈ gtb := gtb_in (List.mem_of_getElem? (i := 990) (by decide +kernel)) rfl
theorem ml_RX10_35 : Cond.methodLink RX10 35 yX10_isPerson ∈ gtb := gtb_in (List.mem_of_getElem? (i := 807) (by decide +kernel)) rfl
theorem ml_RX10_43 : Cond.methodLink RX10 43 yJ6_bitCount_0f7a4 ∈ gtb := gtb_in (List.mem_of_getElem? (i := 789) (by decide +kernel)) rfl
theorem ml_RX10_60 : Cond.methodLink RX10 60 Lib.Math.abs.name ∈ gtb := gtb_in (List.mem_of_getElem? (i := 812) (by decide +kernel)) rfl
theorem ml_RX10_65 : Cond.methodLink RX10 65 Lib.Math.max.name ∈ gtb := gtb_in (List.mem_of_getElem? (i := 815) (by decide +kernel)) rfl
theorem ml_RX10_72 : Cond.methodLink RX10 72 yX10_measure ∈ gtb := gtb_in (List.mem_of_getElem? (i := 828) (by decide +kernel)) rfl
theorem ml_RX10_80 : Cond.methodLink RX10 80 yX0_reckon ∈ gtb := gtb_in (List.mem_of_getElem? (i := 829) (by decide +kernel)) rfl
theorem ml_RX10_87 : Cond.methodLink RX10 87 yX10_goodnessWith ∈ gtb := gtb_in (List.mem_of_getElem? (i := 824) (by decide +kernel)) rfl
theorem ml_RX10_94 : Cond.methodLink RX10 94 yX10_areTwo ∈ gtb := gtb_in (List.mem_of_getElem? (i := 860) (by decide +kernel)) rfl
theorem ml_RX11_104 : Cond.methodLink RX11 104 yX8_become ∈ gtb := gtb_in (List.mem_of_getElem? (i := 736) (by decide +kernel)) rfl
theorem ml_RX11_111 : Cond.methodLink RX11 111 yX5_become ∈ gtb := gtb_in (List.mem_of_getElem? (i := 748) (by decide +kernel)) rfl
theorem ml_RX11_114 : Cond.methodLink RX11 114 yX2_forget ∈ gtb := gtb_in (List.mem_of_getElem? (i := 753) (by decide +kernel)) rfl
theorem ml_RX11_123 : Cond.methodLink RX11 123 yX10_isPerson ∈ gtb := gtb_in (List.mem_of_getElem? (i := 765) (by decide +kernel)) rfl
theorem ml_RX11_140 : Cond.methodLink RX11 140 yX10_isThing ∈ gtb := gtb_in (List.mem_of_getElem? (i := 773) (by decide +kernel)) rfl
theorem ml_RX11_143 : Cond.methodLink RX11 143 yX5_has ∈ gtb := gtb_in (List.mem_of_getElem? (i := 777) (by decide +kernel)) rfl
theorem ml_RX11_156 : Cond.methodLink RX11 156 yX10_rarity ∈ gtb := gtb_in (List.mem_of_getElem? (i := 785) (by decide +kernel)) rfl
theorem ml_RX11_160 : Cond.methodLink RX11 160 yX8_whoAre ∈ gtb := gtb_in (List.mem_of_getElem? (i := 795) (by decide +kernel)) rfl
theorem ml_RX11_163 : Cond.methodLink RX11 163 yX10_areTwo ∈ gtb := gtb_in (List.mem_of_getElem? (i := 803) (by decide +kernel)) rfl
theorem ml_RX11_166 : Cond.methodLink RX11 166 yX10_measure ∈ gtb := gtb_in (List.mem_of_getElem? (i := 808) (by decide +kernel)) rfl
theorem ml_RX11_177 : Cond.methodLink RX11 177 yX10_goodness ∈ gtb := gtb_in (List.mem_of_getElem? (i := 820) (by decide +kernel)) rfl
theorem ml_RX11_182 : Cond.methodLink RX11 182 yX10_isAllowed ∈ gtb := gtb_in (List.mem_of_getElem? (i := 848) (by decide +kernel)) rfl
theorem ml_RX11_185 : Cond.methodLink RX11 185 yX10_whyNotMarry ∈ gtb := gtb_in (List.mem_of_getElem? (i := 856) (by decide +kernel)) rfl
theorem ml_RX11_188 : Cond.methodLink RX11 188 yX2_keep ∈ gtb := gtb_in (List.mem_of_getElem? (i := 862) (by decide +kernel)) rfl
theorem ml_RX11_191 : Cond.methodLink RX11 191 yX5_marry ∈ gtb := gtb_in (List.mem_of_getElem? (i := 867) (by decide +kernel)) rfl
theorem ml_RX11_195 : Cond.methodLink RX11 195 yX5_split ∈ gtb := gtb_in (List.mem_of_getElem? (i := 875) (by decide +kernel)) rfl
theorem ml_RX11_198 : Cond.methodLink RX11 198 yX10_whyNotTake ∈ gtb := gtb_in (List.mem_of_getElem? (i := 883) (by decide +kernel)) rfl
theorem ml_RX11_201 : Cond.methodLink RX11 201 yX10_takeOrGive ∈ gtb := gtb_in (List.mem_of_getElem? (i := 893) (by decide +kernel)) rfl
theorem ml_RX11_204 : Cond.methodLink RX11 204 yJ6_bitCount_0f7a4 ∈ gtb := gtb_in (List.mem_of_getElem? (i := 902) (by decide +kernel)) rfl
theorem ml_RX11_209 : Cond.methodLink RX11 209 yX5_copyList ∈ gtb := gtb_in (List.mem_of_getElem? (i := 907) (by decide +kernel)) rfl
theorem ml_RX11_212 : Cond.methodLink RX11 212 yX10_passYear ∈ gtb := gtb_in (List.mem_of_getElem? (i := 918) (by decide +kernel)) rfl
theorem ml_RX11_219 : Cond.methodLink RX11 219 yX2_bringBack ∈ gtb := gtb_in (List.mem_of_getElem? (i := 942) (by decide +kernel)) rfl
theorem ml_RX11_223 : Cond.methodLink RX11 223 yX11_isTray ∈ gtb := gtb_in (List.mem_of_getElem? (i := 950) (by decide +kernel)) rfl
theorem ml_RX11_230 : Cond.methodLink RX11 230 yX11_rehearse ∈ gtb := gtb_in (List.mem_of_getElem? (i := 953) (by decide +kernel)) rfl
theorem ml_RX11_237 : Cond.methodLink RX11 237 yX10_couples ∈ gtb := gtb_in (List.mem_of_getElem? (i := 982) (by decide +kernel)) rfl
theorem ml_RX11_240 : Cond.methodLink RX11 240 yX10_goodOfCouples ∈ gtb := gtb_in (List.mem_of_getElem? (i := 986) (by decide +kernel)) rfl
theorem ml_RX11_243 : Cond.methodLink RX11 243 yX11_acceptTrial ∈ gtb := gtb_in (List.mem_of_getElem? (i := 995) (by decide +kernel)) rfl
theorem ml_RX11_255 : Cond.methodLink RX11 255 yX11_drawDeed ∈ gtb := gtb_in (List.mem_of_getElem? (i := 1003) (by decide +kernel)) rfl
theorem ml_RX11_258 : Cond.methodLink RX11 258 yX10_attempt ∈ gtb := gtb_in (List.mem_of_getElem? (i := 957) (by decide +kernel)) rfl
theorem ml_RX11_262 : Cond.methodLink RX11 262 yX6_survey ∈ gtb := gtb_in (List.mem_of_getElem? (i := 1016) (by decide +kernel)) rfl
theorem ml_RX11_265 : Cond.methodLink RX11 265 yX8_everybody ∈ gtb := gtb_in (List.mem_of_getElem? (i := 1022) (by decide +kernel)) rfl
theorem ml_RX11_271 : Cond.methodLink RX11 271 yX11_isMatchingQuestion ∈ gtb := gtb_in (List.mem_of_getElem? (i := 1040) (by decide +kernel)) rfl
theorem ml_RX11_274 : Cond.methodLink RX11 274 yX6_solve ∈ gtb := gtb_in (List.mem_of_getElem? (i := 1047) (by decide +kernel)) rfl
theorem ml_RX11_277 : Cond.methodLink RX11 277 yX6_follow ∈ gtb := gtb_in (List.mem_of_getElem? (i := 1057) (by decide +kernel)) rfl
theorem ml_RX11_280 : Cond.methodLink RX11 280 yX6_answer ∈ gtb := gtb_in (List.mem_of_getElem? (i := 1065) (by decide +kernel)) rfl
theorem ml_RX11_283 : Cond.methodLink RX11 283 yX6_leaveAlone ∈ gtb := gtb_in (List.mem_of_getElem? (i := 1077) (by decide +kernel)) rfl
theorem ml_RX11_289 : Cond.methodLink RX11 289 yX6_seat ∈ gtb := gtb_in (List.mem_of_getElem? (i := 1091) (by decide +kernel)) rfl
theorem ml_RX11_293 : Cond.methodLink RX11 293 yX6_firstBreak ∈ gtb := gtb_in (List.mem_of_getElem? (i := 1095) (by decide +kernel)) rfl
theorem ml_RX11_299 : Cond.methodLink RX11 299 yX11_endurance ∈ gtb := gtb_in (List.mem_of_getElem? (i := 1108) (by decide +kernel)) rfl
theorem ml_RX11_303 : Cond.methodLink RX11 303 yX10_passYearOfTwo ∈ gtb := gtb_in (List.mem_of_getElem? (i := 1112) (by decide +kernel)) rfl
theorem ml_RX11_306 : Cond.methodLink RX11 306 yX6_isOpen ∈ gtb := gtb_in (List.mem_of_getElem? (i := 1124) (by decide +kernel)) rfl
theorem ml_RX11_309 : Cond.methodLink RX11 309 yX6_close ∈ gtb := gtb_in (List.mem_of_getElem? (i := 1125) (by decide +kernel)) rfl
theorem ml_RX11_312 : Cond.methodLink RX11 312 yX10_passYearAround ∈ gtb := gtb_in (List.mem_of_getElem? (i := 1133) (by decide +kernel)) rfl
theorem ml_RX11_315 : Cond.methodLink RX11 315 yX11_isEither ∈ gtb := gtb_in (List.mem_of_getElem? (i := 1044) (by decide +kernel)) rfl
theorem ml_RX11_318 : Cond.methodLink RX11 318 yX6_joins ∈ gtb := gtb_in (List.mem_of_getElem? (i := 1146) (by decide +kernel)) rfl
theorem ml_RX11_322 : Cond.methodLink RX11 322 yX1_fewest ∈ gtb := gtb_in (List.mem_of_getElem? (i := 1155) (by decide +kernel)) rfl
theorem ml_RX11_328 : Cond.methodLink RX11 328 yX10_goodnessWith ∈ gtb := gtb_in (List.mem_of_getElem? (i := 1182) (by decide +kernel)) rfl
theorem ml_RX11_332 : Cond.methodLink RX11 332 yX10_anyOf ∈ gtb := gtb_in (List.mem_of_getElem? (i := 1191) (by decide +kernel)) rfl
theorem ml_RX11_335 : Cond.methodLink RX11 335 yX11_isHouse ∈ gtb := gtb_in (List.mem_of_getElem? (i := 1203) (by decide +kernel)) rfl
theorem ml_RX11_338 : Cond.methodLink RX11 338 yX8_traitsBut ∈ gtb := gtb_in (List.mem_of_getElem? (i := 1219) (by decide +kernel)) rfl
theorem ml_RX11_341 : Cond.methodLink RX11 341 yX9_lay ∈ gtb := gtb_in (List.mem_of_getElem? (i := 1231) (by decide +kernel)) rfl
theorem ml_RX11_357 : Cond.methodLink RX11 357 yX9_cut ∈ gtb := gtb_in (List.mem_of_getElem? (i := 1242) (by decide +kernel)) rfl
theorem ml_RX11_361 : Cond.methodLink RX11 361 Lib.Math.min.name ∈ gtb := gtb_in (List.mem_of_getElem? (i := 1250) (by decide +kernel)) rfl
theorem ml_RX11_381 : Cond.methodLink RX11 381 yX10_onAllLists ∈ gtb := gtb_in (List.mem_of_getElem? (i := 1284) (by decide +kernel)) rfl
theorem ml_RX11_384 : Cond.methodLink RX11 384 yX10_allOf ∈ gtb := gtb_in (List.mem_of_getElem? (i := 1207) (by decide +kernel)) rfl
theorem ml_RX11_387 : Cond.methodLink RX11 387 yX11_draw ∈ gtb := gtb_in (List.mem_of_getElem? (i := 1007) (by decide +kernel)) rfl
theorem ml_RX11_94 : Cond.methodLink RX11 94 yX11_tapeFour ∈ gtb := gtb_in (List.mem_of_getElem? (i := 495) (by decide +kernel)) rfl
theorem ml_RX11_98 : Cond.methodLink RX11 98 yX7_readText ∈ gtb := gtb_in (List.mem_of_getElem? (i := 503) (by decide +kernel)) rfl
theorem ml_RX12_102 : Cond.methodLink RX12 102 yX12_isSmall ∈ gtb := gtb_in (List.mem_of_getElem? (i := 1416) (by decide +kernel)) rfl
theorem ml_RX12_106 : Cond.methodLink RX12 106 yX12_keyAt ∈ gtb := gtb_in (List.mem_of_getElem? (i := 1419) (by decide +kernel)) rfl
theorem ml_RX12_109 : Cond.methodLink RX12 109 yX12_isDigit ∈ gtb := gtb_in (List.mem_of_getElem? (i := 1426) (by decide +kernel)) rfl
theorem ml_RX12_123 : Cond.methodLink RX12 123 yX12_is ∈ gtb := gtb_in (List.mem_of_getElem? (i := 1434) (by decide +kernel)) rfl
theorem ml_RX12_126 : Cond.methodLink RX12 126 yX12_next ∈ gtb := gtb_in (List.mem_of_getElem? (i := 1408) (by decide +kernel)) rfl
theorem ml_RX12_129 : Cond.methodLink RX12 129 yX12_fails ∈ gtb := gtb_in (List.mem_of_getElem? (i := 1442) (by decide +kernel)) rfl
theorem ml_RX12_133 : Cond.methodLink RX12 133 yX12_within ∈ gtb := gtb_in (List.mem_of_getElem? (i := 1405) (by decide +kernel)) rfl
theorem ml_RX12_137 : Cond.methodLink RX12 137 yX12_codes ∈ gtb := gtb_in (List.mem_of_getElem? (i := 1481) (by decide +kernel)) rfl
theorem ml_RX12_144 : Cond.methodLink RX12 144 yX12_goesIn ∈ gtb := gtb_in (List.mem_of_getElem? (i := 1487) (by decide +kernel)) rfl
theorem ml_RX12_147 : Cond.methodLink RX12 147 yX12_readSum ∈ gtb := gtb_in (List.mem_of_getElem? (i := 1469) (by decide +kernel)) rfl
theorem ml_RX12_150 : Cond.methodLink RX12 150 yX12_eats ∈ gtb := gtb_in (List.mem_of_getElem? (i := 1446) (by decide +kernel)) rfl
theorem ml_RX12_153 : Cond.methodLink RX12 153 yX12_readAtom ∈ gtb := gtb_in (List.mem_of_getElem? (i := 1477) (by decide +kernel)) rfl
theorem ml_RX12_156 : Cond.methodLink RX12 156 yX12_readTerm ∈ gtb := gtb_in (List.mem_of_getElem? (i := 1473) (by decide +kernel)) rfl
theorem ml_RX12_159 : Cond.methodLink RX12 159 yX12_readUnit ∈ gtb := gtb_in (List.mem_of_getElem? (i := 1499) (by decide +kernel)) rfl
theorem ml_RX12_162 : Cond.methodLink RX12 162 yX12_readTruth ∈ gtb := gtb_in (List.mem_of_getElem? (i := 1491) (by decide +kernel)) rfl
theorem ml_RX12_165 : Cond.methodLink RX12 165 yX12_readBoth ∈ gtb := gtb_in (List.mem_of_getElem? (i := 1495) (by decide +kernel)) rfl
theorem ml_RX12_168 : Cond.methodLink RX12 168 yX12_takesOne ∈ gtb := gtb_in (List.mem_of_getElem? (i := 1450) (by decide +kernel)) rfl
theorem ml_RX12_172 : Cond.methodLink RX12 172 yX12_takesThings ∈ gtb := gtb_in (List.mem_of_getElem? (i := 1458) (by decide +kernel)) rfl
theorem ml_RX12_175 : Cond.methodLink RX12 175 yX12_isIn ∈ gtb := gtb_in (List.mem_of_getElem? (i := 1462) (by decide +kernel)) rfl
theorem ml_RX12_179 : Cond.methodLink RX12 179 yX12_readThing ∈ gtb := gtb_in (List.mem_of_getElem? (i := 1438) (by decide +kernel)) rfl
theorem ml_RX12_182 : Cond.methodLink RX12 182 yX12_readPerson ∈ gtb := gtb_in (List.mem_of_getElem? (i := 1454) (by decide +kernel)) rfl
theorem ml_RX12_185 : Cond.methodLink RX12 185 yX12_readLaw ∈ gtb := gtb_in (List.mem_of_getElem? (i := 1465) (by decide +kernel)) rfl
theorem ml_RX12_188 : Cond.methodLink RX12 188 yX12_readLine ∈ gtb := gtb_in (List.mem_of_getElem? (i := 1430) (by decide +kernel)) rfl
theorem ml_RX12_194 : Cond.methodLink RX12 194 yX12_isPerson ∈ gtb := gtb_in (List.mem_of_getElem? (i := 1511) (by decide +kernel)) rfl
theorem ml_RX12_198 : Cond.methodLink RX12 198 yX12_loathers ∈ gtb := gtb_in (List.mem_of_getElem? (i := 1531) (by decide +kernel)) rfl
theorem ml_RX12_201 : Cond.methodLink RX12 201 yX12_bitsOf ∈ gtb := gtb_in (List.mem_of_getElem? (i := 1539) (by decide +kernel)) rfl
theorem ml_RX12_204 : Cond.methodLink RX12 204 yX12_rareOf ∈ gtb := gtb_in (List.mem_of_getElem? (i := 1535) (by decide +kernel)) rfl
theorem ml_RX12_207 : Cond.methodLink RX12 207 yX12_listOf ∈ gtb := gtb_in (List.mem_of_getElem? (i := 1515) (by decide +kernel)) rfl
theorem ml_RX12_210 : Cond.methodLink RX12 210 yX12_isThing ∈ gtb := gtb_in (List.mem_of_getElem? (i := 1523) (by decide +kernel)) rfl
theorem ml_RX12_213 : Cond.methodLink RX12 213 yX12_areIt ∈ gtb := gtb_in (List.mem_of_getElem? (i := 1542) (by decide +kernel)) rfl
theorem ml_RX12_216 : Cond.methodLink RX12 216 yX12_rareOfAll ∈ gtb := gtb_in (List.mem_of_getElem? (i := 1559) (by decide +kernel)) rfl
theorem ml_RX12_223 : Cond.methodLink RX12 223 yX12_between ∈ gtb := gtb_in (List.mem_of_getElem? (i := 1575) (by decide +kernel)) rfl
theorem ml_RX12_227 : Cond.methodLink RX12 227 yX12_laysTwo ∈ gtb := gtb_in (List.mem_of_getElem? (i := 1555) (by decide +kernel)) rfl
theorem ml_RX12_231 : Cond.methodLink RX12 231 yX12_reckons ∈ gtb := gtb_in (List.mem_of_getElem? (i := 1571) (by decide +kernel)) rfl
theorem ml_RX12_234 : Cond.methodLink RX12 234 yX12_areTwo ∈ gtb := gtb_in (List.mem_of_getElem? (i := 1550) (by decide +kernel)) rfl
theorem ml_RX12_240 : Cond.methodLink RX12 240 yX12_goodOf ∈ gtb := gtb_in (List.mem_of_getElem? (i := 1567) (by decide +kernel)) rfl
theorem ml_RX12_244 : Cond.methodLink RX12 244 yX12_mayWed ∈ gtb := gtb_in (List.mem_of_getElem? (i := 1585) (by decide +kernel)) rfl
theorem ml_RX12_252 : Cond.methodLink RX12 252 yX12_hasRoom ∈ gtb := gtb_in (List.mem_of_getElem? (i := 1623) (by decide +kernel)) rfl
theorem ml_RX12_255 : Cond.methodLink RX12 255 yX12_year ∈ gtb := gtb_in (List.mem_of_getElem? (i := 1631) (by decide +kernel)) rfl
theorem ml_RX12_258 : Cond.methodLink RX12 258 yX12_parts ∈ gtb := gtb_in (List.mem_of_getElem? (i := 1609) (by decide +kernel)) rfl
theorem ml_RX12_261 : Cond.methodLink RX12 261 yX12_weds ∈ gtb := gtb_in (List.mem_of_getElem? (i := 1597) (by decide +kernel)) rfl
theorem ml_RX12_264 : Cond.methodLink RX12 264 yX12_copiesFrom ∈ gtb := gtb_in (List.mem_of_getElem? (i := 1635) (by decide +kernel)) rfl
theorem ml_RX12_267 : Cond.methodLink RX12 267 yX12_keeps ∈ gtb := gtb_in (List.mem_of_getElem? (i := 1593) (by decide +kernel)) rfl
theorem ml_RX12_270 : Cond.methodLink RX12 270 yX12_notes ∈ gtb := gtb_in (List.mem_of_getElem? (i := 1601) (by decide +kernel)) rfl
theorem ml_RX12_273 : Cond.methodLink RX12 273 yX12_whyNot ∈ gtb := gtb_in (List.mem_of_getElem? (i := 1617) (by decide +kernel)) rfl
theorem ml_RX12_277 : Cond.methodLink RX12 277 yX12_does ∈ gtb := gtb_in (List.mem_of_getElem? (i := 1627) (by decide +kernel)) rfl
theorem ml_RX12_289 : Cond.methodLink RX12 289 yX12_noTray ∈ gtb := gtb_in (List.mem_of_getElem? (i := 1658) (by decide +kernel)) rfl
theorem ml_RX12_292 : Cond.methodLink RX12 292 yX12_tells ∈ gtb := gtb_in (List.mem_of_getElem? (i := 1662) (by decide +kernel)) rfl
theorem ml_RX12_295 : Cond.methodLink RX12 295 yX12_wedMany ∈ gtb := gtb_in (List.mem_of_getElem? (i := 1666) (by decide +kernel)) rfl
theorem ml_RX12_298 : Cond.methodLink RX12 298 yX12_goodOfWed ∈ gtb := gtb_in (List.mem_of_getElem? (i := 1670) (by decide +kernel)) rfl
theorem ml_RX12_301 : Cond.methodLink RX12 301 yX12_isAgain ∈ gtb := gtb_in (List.mem_of_getElem? (i := 1674) (by decide +kernel)) rfl
theorem ml_RX12_308 : Cond.methodLink RX12 308 yX12_draw ∈ gtb := gtb_in (List.mem_of_getElem? (i := 1691) (by decide +kernel)) rfl
theorem ml_RX12_313 : Cond.methodLink RX12 313 yX12_drawn ∈ gtb := gtb_in (List.mem_of_getElem? (i := 1687) (by decide +kernel)) rfl
theorem ml_RX12_316 : Cond.methodLink RX12 316 yX12_holdsFor ∈ gtb := gtb_in (List.mem_of_getElem? (i := 1705) (by decide +kernel)) rfl
theorem ml_RX12_319 : Cond.methodLink RX12 319 yX12_goodAs ∈ gtb := gtb_in (List.mem_of_getElem? (i := 1729) (by decide +kernel)) rfl
theorem ml_RX12_333 : Cond.methodLink RX12 333 yX12_goesMatch ∈ gtb := gtb_in (List.mem_of_getElem? (i := 1721) (by decide +kernel)) rfl
theorem ml_RX12_337 : Cond.methodLink RX12 337 yX12_breaksOf ∈ gtb := gtb_in (List.mem_of_getElem? (i := 1725) (by decide +kernel)) rfl
theorem ml_RX12_348 : Cond.methodLink RX12 348 yX12_laysPairs ∈ gtb := gtb_in (List.mem_of_getElem? (i := 1701) (by decide +kernel)) rfl
theorem ml_RX12_351 : Cond.methodLink RX12 351 yX12_begins ∈ gtb := gtb_in (List.mem_of_getElem? (i := 1717) (by decide +kernel)) rfl
theorem ml_RX12_355 : Cond.methodLink RX12 355 yX12_asksPerson ∈ gtb := gtb_in (List.mem_of_getElem? (i := 1737) (by decide +kernel)) rfl
theorem ml_RX12_358 : Cond.methodLink RX12 358 yX12_found ∈ gtb := gtb_in (List.mem_of_getElem? (i := 1742) (by decide +kernel)) rfl
theorem ml_RX12_361 : Cond.methodLink RX12 361 yX12_keepsAhead ∈ gtb := gtb_in (List.mem_of_getElem? (i := 1709) (by decide +kernel)) rfl
theorem ml_RX12_364 : Cond.methodLink RX12 364 yX12_isAhead ∈ gtb := gtb_in (List.mem_of_getElem? (i := 1713) (by decide +kernel)) rfl
theorem ml_RX12_369 : Cond.methodLink RX12 369 yX12_sharedBy ∈ gtb := gtb_in (List.mem_of_getElem? (i := 1811) (by decide +kernel)) rfl
theorem ml_RX12_372 : Cond.methodLink RX12 372 yX12_angersOf ∈ gtb := gtb_in (List.mem_of_getElem? (i := 1823) (by decide +kernel)) rfl
theorem ml_RX12_377 : Cond.methodLink RX12 377 yX12_cut ∈ gtb := gtb_in (List.mem_of_getElem? (i := 1840) (by decide +kernel)) rfl
theorem ml_RX12_381 : Cond.methodLink RX12 381 yX12_listedMany ∈ gtb := gtb_in (List.mem_of_getElem? (i := 1859) (by decide +kernel)) rfl
theorem ml_RX12_67 : Cond.methodLink RX12 67 yX12_plain ∈ gtb := gtb_in (List.mem_of_getElem? (i := 1294) (by decide +kernel)) rfl
theorem ml_RX12_79 : Cond.methodLink RX12 79 yJ0_length_8abf5 ∈ gtb := gtb_in (List.mem_of_getElem? (i := 1424) (by decide +kernel)) rfl
theorem ml_RX12_85 : Cond.methodLink RX12 85 yJ0_charAt_5068e ∈ gtb := gtb_in (List.mem_of_getElem? (i := 1425) (by decide +kernel)) rfl
theorem ml_RX12_95 : Cond.methodLink RX12 95 yX12_see ∈ gtb := gtb_in (List.mem_of_getElem? (i := 1412) (by decide +kernel)) rfl
theorem ml_RJ0_1059 : Cond.methodLink RJ0 1059 yJ3_checkIndex_8e157 ∈ gtb := gtb_in (List.mem_of_getElem? (i := 633) (by decide +kernel)) rfl
theorem ml_RJ0_335 : Cond.methodLink RJ0 335 yJ0_coder_7d493 ∈ gtb := gtb_in (List.mem_of_getElem? (i := 547) (by decide +kernel)) rfl
theorem ml_RJ0_492 : Cond.methodLink RJ0 492 yJ0_isLatin1_aae02 ∈ gtb := gtb_in (List.mem_of_getElem? (i := 537) (by decide +kernel)) rfl
theorem ml_RJ0_495 : Cond.methodLink RJ0 495 yJ1_charAt_3b067 ∈ gtb := gtb_in (List.mem_of_getElem? (i := 627) (by decide +kernel)) rfl
theorem ml_RJ0_505 : Cond.methodLink RJ0 505 yJ0_length_8abf5 ∈ gtb := gtb_in (List.mem_of_getElem? (i := 543) (by decide +kernel)) rfl
theorem ml_RJ0_633 : Cond.methodLink RJ0 633 yJ0_indexOf_7cf53 ∈ gtb := gtb_in (List.mem_of_getElem? (i := 533) (by decide +kernel)) rfl
theorem ml_RJ0_637 : Cond.methodLink RJ0 637 yJ1_indexOf_4cfef ∈ gtb := gtb_in (List.mem_of_getElem? (i := 551) (by decide +kernel)) rfl
theorem ml_RJ1_38 : Cond.methodLink RJ1 38 Lib.Math.min.name ∈ gtb := gtb_in (List.mem_of_getElem? (i := 560) (by decide +kernel)) rfl
theorem ml_RJ1_88 : Cond.methodLink RJ1 88 yJ1_canEncode_9a6ad ∈ gtb := gtb_in (List.mem_of_getElem? (i := 554) (by decide +kernel)) rfl
theorem ml_RJ1_9 : Cond.methodLink RJ1 9 yJ0_checkIndex_df160 ∈ gtb := gtb_in (List.mem_of_getElem? (i := 630) (by decide +kernel)) rfl
theorem ml_RJ1_92 : Cond.methodLink RJ1 92 Lib.Math.max.name ∈ gtb := gtb_in (List.mem_of_getElem? (i := 557) (by decide +kernel)) rfl
theorem ml_RJ1_95 : Cond.methodLink RJ1 95 yJ1_indexOfChar_4cfef ∈ gtb := gtb_in (List.mem_of_getElem? (i := 561) (by decide +kernel)) rfl
theorem cn_RX0_35 : Cond.constant RX0 35 1000000 ∈ gtb := gtb_in (List.mem_of_getElem? (i := 840) (by decide +kernel)) rfl
theorem cn_RX0_38 : Cond.constant RX0 38 (-1000000) ∈ gtb := gtb_in (List.mem_of_getElem? (i := 842) (by decide +kernel)) rfl
theorem cn_RX6_59 : Cond.constant RX6 59 (-2000000000) ∈ gtb := gtb_in (List.mem_of_getElem? (i := 1055) (by decide +kernel)) rfl
theorem cn_RX6_63 : Cond.constant RX6 63 100000000 ∈ gtb := gtb_in (List.mem_of_getElem? (i := 1056) (by decide +kernel)) rfl
theorem cn_RX11_181 : Cond.constant RX11 181 (-2000000) ∈ gtb := gtb_in (List.mem_of_getElem? (i := 843) (by decide +kernel)) rfl
theorem cn_RX11_390 : Cond.constant RX11 390 1103515245 ∈ gtb := gtb_in (List.mem_of_getElem? (i := 1011) (by decide +kernel)) rfl
theorem cn_RX12_243 : Cond.constant RX12 243 (-2000000) ∈ gtb := gtb_in (List.mem_of_getElem? (i := 1580) (by decide +kernel)) rfl
theorem cn_RX12_304 : Cond.constant RX12 304 1103515245 ∈ gtb := gtb_in (List.mem_of_getElem? (i := 1695) (by decide +kernel)) rfl
theorem cn_RJ6_264 : Cond.constant RJ6 264 65536 ∈ gtb := gtb_in (List.mem_of_getElem? (i := 937) (by decide +kernel)) rfl
theorem cn_RJ6_265 : Cond.constant RJ6 265 1431655765 ∈ gtb := gtb_in (List.mem_of_getElem? (i := 792) (by decide +kernel)) rfl
theorem cn_RJ6_266 : Cond.constant RJ6 266 858993459 ∈ gtb := gtb_in (List.mem_of_getElem? (i := 793) (by decide +kernel)) rfl
theorem cn_RJ6_267 : Cond.constant RJ6 267 252645135 ∈ gtb := gtb_in (List.mem_of_getElem? (i := 794) (by decide +kernel)) rfl
theorem cl_RX0_33 : Cond.constantLong RX0 33 1000000 ∈ gtb := gtb_in (List.mem_of_getElem? (i := 839) (by decide +kernel)) rfl
theorem cl_RX0_36 : Cond.constantLong RX0 36 (-1000000) ∈ gtb := gtb_in (List.mem_of_getElem? (i := 841) (by decide +kernel)) rfl
theorem cl_RX10_124 : Cond.constantLong RX10 124 (-1) ∈ gtb := gtb_in (List.mem_of_getElem? (i := 961) (by decide +kernel)) rfl
theorem cl_RX10_130 : Cond.constantLong RX10 130 3000 ∈ gtb := gtb_in (List.mem_of_getElem? (i := 963) (by decide +kernel)) rfl
theorem cl_RX11_344 : Cond.constantLong RX11 344 (-2) ∈ gtb := gtb_in (List.mem_of_getElem? (i := 1239) (by decide +kernel)) rfl
theorem cl_RX11_346 : Cond.constantLong RX11 346 (-6) ∈ gtb := gtb_in (List.mem_of_getElem? (i := 1240) (by decide +kernel)) rfl
theorem cl_RX11_351 : Cond.constantLong RX11 351 (-7) ∈ gtb := gtb_in (List.mem_of_getElem? (i := 1241) (by decide +kernel)) rfl
theorem cl_RX12_140 : Cond.constantLong RX12 140 13 ∈ gtb := gtb_in (List.mem_of_getElem? (i := 1485) (by decide +kernel)) rfl
theorem cl_RX12_142 : Cond.constantLong RX12 142 19 ∈ gtb := gtb_in (List.mem_of_getElem? (i := 1486) (by decide +kernel)) rfl
theorem cl_RX12_219 : Cond.constantLong RX12 219 1000000 ∈ gtb := gtb_in (List.mem_of_getElem? (i := 1578) (by decide +kernel)) rfl
theorem cl_RX12_221 : Cond.constantLong RX12 221 (-1000000) ∈ gtb := gtb_in (List.mem_of_getElem? (i := 1579) (by decide +kernel)) rfl
theorem cl_RX12_238 : Cond.constantLong RX12 238 5 ∈ gtb := gtb_in (List.mem_of_getElem? (i := 1554) (by decide +kernel)) rfl
theorem cl_RX12_248 : Cond.constantLong RX12 248 (-1) ∈ gtb := gtb_in (List.mem_of_getElem? (i := 1621) (by decide +kernel)) rfl
theorem cl_RX12_250 : Cond.constantLong RX12 250 2999 ∈ gtb := gtb_in (List.mem_of_getElem? (i := 1622) (by decide +kernel)) rfl
theorem cl_RX12_280 : Cond.constantLong RX12 280 60 ∈ gtb := gtb_in (List.mem_of_getElem? (i := 1647) (by decide +kernel)) rfl
theorem cl_RX12_282 : Cond.constantLong RX12 282 8 ∈ gtb := gtb_in (List.mem_of_getElem? (i := 1652) (by decide +kernel)) rfl
theorem cl_RX12_287 : Cond.constantLong RX12 287 3 ∈ gtb := gtb_in (List.mem_of_getElem? (i := 1657) (by decide +kernel)) rfl
theorem cl_RX12_311 : Cond.constantLong RX12 311 40 ∈ gtb := gtb_in (List.mem_of_getElem? (i := 1686) (by decide +kernel)) rfl
theorem cl_RX12_344 : Cond.constantLong RX12 344 10 ∈ gtb := gtb_in (List.mem_of_getElem? (i := 1741) (by decide +kernel)) rfl
theorem cl_RX12_346 : Cond.constantLong RX12 346 4 ∈ gtb := gtb_in (List.mem_of_getElem? (i := 1700) (by decide +kernel)) rfl
theorem cl_RX12_367 : Cond.constantLong RX12 367 14 ∈ gtb := gtb_in (List.mem_of_getElem? (i := 1810) (by decide +kernel)) rfl
theorem cl_RX12_375 : Cond.constantLong RX12 375 (-7) ∈ gtb := gtb_in (List.mem_of_getElem? (i := 1839) (by decide +kernel)) rfl
theorem acN : Cond.native arraycopyName ∈ gtb := gtb_in (List.mem_of_getElem? (i := 742) (by decide +kernel)) rfl
theorem acS : Cond.static arraycopyName ∈ gtb := gtb_in (List.mem_of_getElem? (i := 741) (by decide +kernel)) rfl
theorem acI : Cond.initialized "java/lang/System" ∈ gtb := gtb_in (List.mem_of_getElem? (i := 124) (by decide +kernel)) rfl
theorem mt_i : Cond.initialized "java/lang/Math" ∈ gtb := gtb_in (List.mem_of_getElem? (i := 118) (by decide +kernel)) rfl
theorem mt_max_s : Cond.static Lib.Math.max.name ∈ gtb := gtb_in (List.mem_of_getElem? (i := 558) (by decide +kernel)) rfl
theorem mt_max_c : Cond.code Lib.Math.max.name Lib.Math.max.code 2 (some .int) ∈ gtb := gtb_in (List.mem_of_getElem? (i := 559) (by decide +kernel)) rfl
theorem mt_min_s : Cond.static Lib.Math.min.name ∈ gtb := gtb_in (List.mem_of_getElem? (i := 508) (by decide +kernel)) rfl
theorem mt_min_c : Cond.code Lib.Math.min.name Lib.Math.min.code 2 (some .int) ∈ gtb := gtb_in (List.mem_of_getElem? (i := 509) (by decide +kernel)) rfl
theorem mt_abs_s : Cond.static Lib.Math.abs.name ∈ gtb := gtb_in (List.mem_of_getElem? (i := 813) (by decide +kernel)) rfl
theorem mt_abs_c : Cond.code Lib.Math.abs.name Lib.Math.abs.code 1 (some .int) ∈ gtb := gtb_in (List.mem_of_getElem? (i := 814) (by decide +kernel)) rfl
theorem ck_J0_charAt_5068e : CkV yJ0_charAt_5068e cJ0_charAt_5068e 2 (some .char) 1 := ⟨⟨gtb_in (List.mem_of_getElem? (i := 119) (by decide +kernel)) rfl, gtb_in (List.mem_of_getElem? (i := 626) (by decide +kernel)) rfl, by decide +kernel⟩, gtb_in (List.mem_of_getElem? (i := 624) (by decide +kernel)) rfl, gtb_in (List.mem_of_getElem? (i := 625) (by decide +kernel)) rfl⟩
theorem ck_J0_checkIndex_df160 : CkS yJ0_checkIndex_df160 cJ0_checkIndex_df160 2 none 2 := ⟨⟨gtb_in (List.mem_of_getElem? (i := 119) (by decide +kernel)) rfl, gtb_in (List.mem_of_getElem? (i := 632) (by decide +kernel)) rfl, by decide +kernel⟩, gtb_in (List.mem_of_getElem? (i := 631) (by decide +kernel)) rfl⟩
theorem ck_J0_coder_7d493 : CkV yJ0_coder_7d493 cJ0_coder_7d493 1 (some .byte) 0 := ⟨⟨gtb_in (List.mem_of_getElem? (i := 119) (by decide +kernel)) rfl, gtb_in (List.mem_of_getElem? (i := 550) (by decide +kernel)) rfl, by decide +kernel⟩, gtb_in (List.mem_of_getElem? (i := 548) (by decide +kernel)) rfl, gtb_in (List.mem_of_getElem? (i := 549) (by decide +kernel)) rfl⟩
theorem ck_J0_indexOf_0f7a4 : CkV yJ0_indexOf_0f7a4 cJ0_indexOf_0f7a4 2 (some .int) 1 := ⟨⟨gtb_in (List.mem_of_getElem? (i := 119) (by decide +kernel)) rfl, gtb_in (List.mem_of_getElem? (i := 532) (by decide +kernel)) rfl, by decide +kernel⟩, gtb_in (List.mem_of_getElem? (i := 530) (by decide +kernel)) rfl, gtb_in (List.mem_of_getElem? (i := 531) (by decide +kernel)) rfl⟩
theorem ck_J0_indexOf_7cf53 : CkV yJ0_indexOf_7cf53 cJ0_indexOf_7cf53 3 (some .int) 2 := ⟨⟨gtb_in (List.mem_of_getElem? (i := 119) (by decide +kernel)) rfl, gtb_in (List.mem_of_getElem? (i := 536) (by decide +kernel)) rfl, by decide +kernel⟩, gtb_in (List.mem_of_getElem? (i := 534) (by decide +kernel)) rfl, gtb_in (List.mem_of_getElem? (i := 535) (by decide +kernel)) rfl⟩
theorem ck_J0_isLatin1_aae02 : CkV yJ0_isLatin1_aae02 cJ0_isLatin1_aae02 1 (some .boolean) 0 := ⟨⟨gtb_in (List.mem_of_getElem? (i := 119) (by decide +kernel)) rfl, gtb_in (List.mem_of_getElem? (i := 540) (by decide +kernel)) rfl, by decide +kernel⟩, gtb_in (List.mem_of_getElem? (i := 538) (by decide +kernel)) rfl, gtb_in (List.mem_of_getElem? (i := 539) (by decide +kernel)) rfl⟩
theorem ck_J0_length_8abf5 : CkV yJ0_length_8abf5 cJ0_length_8abf5 1 (some .int) 0 := ⟨⟨gtb_in (List.mem_of_getElem? (i := 119) (by decide +kernel)) rfl, gtb_in (List.mem_of_getElem? (i := 546) (by decide +kernel)) rfl, by decide +kernel⟩, gtb_in (List.mem_of_getElem? (i := 544) (by decide +kernel)) rfl, gtb_in (List.mem_of_getElem? (i := 545) (by decide +kernel)) rfl⟩
theorem ck_J1_canEncode_9a6ad : CkS yJ1_canEncode_9a6ad cJ1_canEncode_9a6ad 1 (some .boolean) 1 := ⟨⟨gtb_in (List.mem_of_getElem? (i := 120) (by decide +kernel)) rfl, gtb_in (List.mem_of_getElem? (i := 556) (by decide +kernel)) rfl, by decide +kernel⟩, gtb_in (List.mem_of_getElem? (i := 555) (by decide +kernel)) rfl⟩
theorem ck_J1_charAt_3b067 : CkS yJ1_charAt_3b067 cJ1_charAt_3b067 2 (some .char) 2 := ⟨⟨gtb_in (List.mem_of_getElem? (i := 120) (by decide +kernel)) rfl, gtb_in (List.mem_of_getElem? (i := 629) (by decide +kernel)) rfl, by decide +kernel⟩, gtb_in (List.mem_of_getElem? (i := 628) (by decide +kernel)) rfl⟩
theorem ck_J1_indexOfChar_4cfef : CkS yJ1_indexOfChar_4cfef cJ1_indexOfChar_4cfef 6 (some .int) 4 := ⟨⟨gtb_in (List.mem_of_getElem? (i := 120) (by decide +kernel)) rfl, gtb_in (List.mem_of_getElem? (i := 563) (by decide +kernel)) rfl, by decide +kernel⟩, gtb_in (List.mem_of_getElem? (i := 562) (by decide +kernel)) rfl⟩
theorem ck_J1_indexOf_4cfef : CkS yJ1_indexOf_4cfef cJ1_indexOf_4cfef 4 (some .int) 4 := ⟨⟨gtb_in (List.mem_of_getElem? (i := 120) (by decide +kernel)) rfl, gtb_in (List.mem_of_getElem? (i := 553) (by decide +kernel)) rfl, by decide +kernel⟩, gtb_in (List.mem_of_getElem? (i := 552) (by decide +kernel)) rfl⟩
theorem ck_J3_checkIndex_8e157 : CkS yJ3_checkIndex_8e157 cJ3_checkIndex_8e157 3 (some .int) 3 := ⟨⟨gtb_in (List.mem_of_getElem? (i := 122) (by decide +kernel)) rfl, gtb_in (List.mem_of_getElem? (i := 635) (by decide +kernel)) rfl, by decide +kernel⟩, gtb_in (List.mem_of_getElem? (i := 634) (by decide +kernel)) rfl⟩
theorem ck_J6_bitCount_0f7a4 : CkS yJ6_bitCount_0f7a4 cJ6_bitCount_0f7a4 1 (some .int) 1 := ⟨⟨gtb_in (List.mem_of_getElem? (i := 125) (by decide +kernel)) rfl, gtb_in (List.mem_of_getElem? (i := 791) (by decide +kernel)) rfl, by decide +kernel⟩, gtb_in (List.mem_of_getElem? (i := 790) (by decide +kernel)) rfl⟩
theorem ck_J6_numberOfTrailingZeros_0f7a4 : CkS yJ6_numberOfTrailingZeros_0f7a4 cJ6_numberOfTrailingZeros_0f7a4 2 (some .int) 1 := ⟨⟨gtb_in (List.mem_of_getElem? (i := 125) (by decide +kernel)) rfl, gtb_in (List.mem_of_getElem? (i := 936) (by decide +kernel)) rfl, by decide +kernel⟩, gtb_in (List.mem_of_getElem? (i := 935) (by decide +kernel)) rfl⟩
theorem ck_X0_join : CkS yX0_join cX0_join 5 (some .long) 3 := ⟨⟨gtb_in (List.mem_of_getElem? (i := 110) (by decide +kernel)) rfl, gtb_in (List.mem_of_getElem? (i := 835) (by decide +kernel)) rfl, by decide +kernel⟩, gtb_in (List.mem_of_getElem? (i := 834) (by decide +kernel)) rfl⟩
theorem ck_X0_keepWithin : CkS yX0_keepWithin cX0_keepWithin 2 (some .int) 1 := ⟨⟨gtb_in (List.mem_of_getElem? (i := 110) (by decide +kernel)) rfl, gtb_in (List.mem_of_getElem? (i := 838) (by decide +kernel)) rfl, by decide +kernel⟩, gtb_in (List.mem_of_getElem? (i := 837) (by decide +kernel)) rfl⟩
theorem ck_X0_reckon : CkV yX0_reckon cX0_reckon 5 (some .int) 1 := ⟨⟨gtb_in (List.mem_of_getElem? (i := 110) (by decide +kernel)) rfl, gtb_in (List.mem_of_getElem? (i := 832) (by decide +kernel)) rfl, by decide +kernel⟩, gtb_in (List.mem_of_getElem? (i := 830) (by decide +kernel)) rfl, gtb_in (List.mem_of_getElem? (i := 831) (by decide +kernel)) rfl⟩
theorem ck_X10_allOf : CkV yX10_allOf cX10_allOf 4 (some .int) 1 := ⟨⟨gtb_in (List.mem_of_getElem? (i := 111) (by decide +kernel)) rfl, gtb_in (List.mem_of_getElem? (i := 1210) (by decide +kernel)) rfl, by decide +kernel⟩, gtb_in (List.mem_of_getElem? (i := 1208) (by decide +kernel)) rfl, gtb_in (List.mem_of_getElem? (i := 1209) (by decide +kernel)) rfl⟩
theorem ck_X10_anyOf : CkV yX10_anyOf cX10_anyOf 4 (some .int) 1 := ⟨⟨gtb_in (List.mem_of_getElem? (i := 111) (by decide +kernel)) rfl, gtb_in (List.mem_of_getElem? (i := 1194) (by decide +kernel)) rfl, by decide +kernel⟩, gtb_in (List.mem_of_getElem? (i := 1192) (by decide +kernel)) rfl, gtb_in (List.mem_of_getElem? (i := 1193) (by decide +kernel)) rfl⟩
theorem ck_X10_areTwo : CkV yX10_areTwo cX10_areTwo 3 (some .boolean) 2 := ⟨⟨gtb_in (List.mem_of_getElem? (i := 111) (by decide +kernel)) rfl, gtb_in (List.mem_of_getElem? (i := 806) (by decide +kernel)) rfl, by decide +kernel⟩, gtb_in (List.mem_of_getElem? (i := 804) (by decide +kernel)) rfl, gtb_in (List.mem_of_getElem? (i := 805) (by decide +kernel)) rfl⟩
theorem ck_X10_attempt : CkV yX10_attempt cX10_attempt 6 (some .int) 1 := ⟨⟨gtb_in (List.mem_of_getElem? (i := 111) (by decide +kernel)) rfl, gtb_in (List.mem_of_getElem? (i := 960) (by decide +kernel)) rfl, by decide +kernel⟩, gtb_in (List.mem_of_getElem? (i := 958) (by decide +kernel)) rfl, gtb_in (List.mem_of_getElem? (i := 959) (by decide +kernel)) rfl⟩
theorem ck_X10_attemptCopy : CkV yX10_attemptCopy cX10_attemptCopy 3 (some .int) 2 := ⟨⟨gtb_in (List.mem_of_getElem? (i := 111) (by decide +kernel)) rfl, gtb_in (List.mem_of_getElem? (i := 980) (by decide +kernel)) rfl, by decide +kernel⟩, gtb_in (List.mem_of_getElem? (i := 979) (by decide +kernel)) rfl, gtb_in (List.mem_of_getElem? (i := 29) (by decide +kernel)) rfl⟩
theorem ck_X10_attemptMarriage : CkV yX10_attemptMarriage cX10_attemptMarriage 4 (some .int) 2 := ⟨⟨gtb_in (List.mem_of_getElem? (i := 111) (by decide +kernel)) rfl, gtb_in (List.mem_of_getElem? (i := 967) (by decide +kernel)) rfl, by decide +kernel⟩, gtb_in (List.mem_of_getElem? (i := 966) (by decide +kernel)) rfl, gtb_in (List.mem_of_getElem? (i := 27) (by decide +kernel)) rfl⟩
theorem ck_X10_attemptTaking : CkV yX10_attemptTaking cX10_attemptTaking 4 (some .int) 2 := ⟨⟨gtb_in (List.mem_of_getElem? (i := 111) (by decide +kernel)) rfl, gtb_in (List.mem_of_getElem? (i := 974) (by decide +kernel)) rfl, by decide +kernel⟩, gtb_in (List.mem_of_getElem? (i := 973) (by decide +kernel)) rfl, gtb_in (List.mem_of_getElem? (i := 28) (by decide +kernel)) rfl⟩
theorem ck_X10_couples : CkV yX10_couples cX10_couples 3 (some .int) 0 := ⟨⟨gtb_in (List.mem_of_getElem? (i := 111) (by decide +kernel)) rfl, gtb_in (List.mem_of_getElem? (i := 985) (by decide +kernel)) rfl, by decide +kernel⟩, gtb_in (List.mem_of_getElem? (i := 983) (by decide +kernel)) rfl, gtb_in (List.mem_of_getElem? (i := 984) (by decide +kernel)) rfl⟩
theorem ck_X10_exchange : CkV yX10_exchange cX10_exchange 5 none 2 := ⟨⟨gtb_in (List.mem_of_getElem? (i := 111) (by decide +kernel)) rfl, gtb_in (List.mem_of_getElem? (i := 929) (by decide +kernel)) rfl, by decide +kernel⟩, gtb_in (List.mem_of_getElem? (i := 928) (by decide +kernel)) rfl, gtb_in (List.mem_of_getElem? (i := 24) (by decide +kernel)) rfl⟩
theorem ck_X10_goodOfCouples : CkV yX10_goodOfCouples cX10_goodOfCouples 3 (some .int) 0 := ⟨⟨gtb_in (List.mem_of_getElem? (i := 111) (by decide +kernel)) rfl, gtb_in (List.mem_of_getElem? (i := 989) (by decide +kernel)) rfl, by decide +kernel⟩, gtb_in (List.mem_of_getElem? (i := 987) (by decide +kernel)) rfl, gtb_in (List.mem_of_getElem? (i := 988) (by decide +kernel)) rfl⟩
theorem ck_X10_goodness : CkV yX10_goodness cX10_goodness 3 (some .int) 2 := ⟨⟨gtb_in (List.mem_of_getElem? (i := 111) (by decide +kernel)) rfl, gtb_in (List.mem_of_getElem? (i := 823) (by decide +kernel)) rfl, by decide +kernel⟩, gtb_in (List.mem_of_getElem? (i := 821) (by decide +kernel)) rfl, gtb_in (List.mem_of_getElem? (i := 822) (by decide +kernel)) rfl⟩
theorem ck_X10_goodnessWith : CkV yX10_goodnessWith cX10_goodnessWith 5 (some .int) 4 := ⟨⟨gtb_in (List.mem_of_getElem? (i := 111) (by decide +kernel)) rfl, gtb_in (List.mem_of_getElem? (i := 827) (by decide +kernel)) rfl, by decide +kernel⟩, gtb_in (List.mem_of_getElem? (i := 825) (by decide +kernel)) rfl, gtb_in (List.mem_of_getElem? (i := 826) (by decide +kernel)) rfl⟩
theorem ck_X10_growOlder : CkV yX10_growOlder cX10_growOlder 5 (some .int) 1 := ⟨⟨gtb_in (List.mem_of_getElem? (i := 111) (by decide +kernel)) rfl, gtb_in (List.mem_of_getElem? (i := 925) (by decide +kernel)) rfl, by decide +kernel⟩, gtb_in (List.mem_of_getElem? (i := 924) (by decide +kernel)) rfl, gtb_in (List.mem_of_getElem? (i := 23) (by decide +kernel)) rfl⟩
theorem ck_X10_hasRoom : CkV yX10_hasRoom cX10_hasRoom 2 (some .boolean) 1 := ⟨⟨gtb_in (List.mem_of_getElem? (i := 111) (by decide +kernel)) rfl, gtb_in (List.mem_of_getElem? (i := 892) (by decide +kernel)) rfl, by decide +kernel⟩, gtb_in (List.mem_of_getElem? (i := 891) (by decide +kernel)) rfl, gtb_in (List.mem_of_getElem? (i := 22) (by decide +kernel)) rfl⟩
theorem ck_X10_isAllowed : CkV yX10_isAllowed cX10_isAllowed 3 (some .boolean) 2 := ⟨⟨gtb_in (List.mem_of_getElem? (i := 111) (by decide +kernel)) rfl, gtb_in (List.mem_of_getElem? (i := 851) (by decide +kernel)) rfl, by decide +kernel⟩, gtb_in (List.mem_of_getElem? (i := 849) (by decide +kernel)) rfl, gtb_in (List.mem_of_getElem? (i := 850) (by decide +kernel)) rfl⟩
theorem ck_X10_isPerson : CkV yX10_isPerson cX10_isPerson 2 (some .boolean) 1 := ⟨⟨gtb_in (List.mem_of_getElem? (i := 111) (by decide +kernel)) rfl, gtb_in (List.mem_of_getElem? (i := 768) (by decide +kernel)) rfl, by decide +kernel⟩, gtb_in (List.mem_of_getElem? (i := 766) (by decide +kernel)) rfl, gtb_in (List.mem_of_getElem? (i := 767) (by decide +kernel)) rfl⟩
theorem ck_X10_isThing : CkV yX10_isThing cX10_isThing 2 (some .boolean) 1 := ⟨⟨gtb_in (List.mem_of_getElem? (i := 111) (by decide +kernel)) rfl, gtb_in (List.mem_of_getElem? (i := 776) (by decide +kernel)) rfl, by decide +kernel⟩, gtb_in (List.mem_of_getElem? (i := 774) (by decide +kernel)) rfl, gtb_in (List.mem_of_getElem? (i := 775) (by decide +kernel)) rfl⟩
theorem ck_X10_measure : CkV yX10_measure cX10_measure 9 none 4 := ⟨⟨gtb_in (List.mem_of_getElem? (i := 111) (by decide +kernel)) rfl, gtb_in (List.mem_of_getElem? (i := 811) (by decide +kernel)) rfl, by decide +kernel⟩, gtb_in (List.mem_of_getElem? (i := 809) (by decide +kernel)) rfl, gtb_in (List.mem_of_getElem? (i := 810) (by decide +kernel)) rfl⟩
theorem ck_X10_onAllLists : CkV yX10_onAllLists cX10_onAllLists 3 (some .int) 0 := ⟨⟨gtb_in (List.mem_of_getElem? (i := 111) (by decide +kernel)) rfl, gtb_in (List.mem_of_getElem? (i := 1287) (by decide +kernel)) rfl, by decide +kernel⟩, gtb_in (List.mem_of_getElem? (i := 1285) (by decide +kernel)) rfl, gtb_in (List.mem_of_getElem? (i := 1286) (by decide +kernel)) rfl⟩
theorem ck_X10_passYear : CkV yX10_passYear cX10_passYear 3 (some .int) 0 := ⟨⟨gtb_in (List.mem_of_getElem? (i := 111) (by decide +kernel)) rfl, gtb_in (List.mem_of_getElem? (i := 921) (by decide +kernel)) rfl, by decide +kernel⟩, gtb_in (List.mem_of_getElem? (i := 919) (by decide +kernel)) rfl, gtb_in (List.mem_of_getElem? (i := 920) (by decide +kernel)) rfl⟩
theorem ck_X10_passYearAround : CkV yX10_passYearAround cX10_passYearAround 3 none 1 := ⟨⟨gtb_in (List.mem_of_getElem? (i := 111) (by decide +kernel)) rfl, gtb_in (List.mem_of_getElem? (i := 1136) (by decide +kernel)) rfl, by decide +kernel⟩, gtb_in (List.mem_of_getElem? (i := 1134) (by decide +kernel)) rfl, gtb_in (List.mem_of_getElem? (i := 1135) (by decide +kernel)) rfl⟩
theorem ck_X10_passYearOfTwo : CkV yX10_passYearOfTwo cX10_passYearOfTwo 3 none 2 := ⟨⟨gtb_in (List.mem_of_getElem? (i := 111) (by decide +kernel)) rfl, gtb_in (List.mem_of_getElem? (i := 1115) (by decide +kernel)) rfl, by decide +kernel⟩, gtb_in (List.mem_of_getElem? (i := 1113) (by decide +kernel)) rfl, gtb_in (List.mem_of_getElem? (i := 1114) (by decide +kernel)) rfl⟩
theorem ck_X10_rarity : CkV yX10_rarity cX10_rarity 2 (some .int) 1 := ⟨⟨gtb_in (List.mem_of_getElem? (i := 111) (by decide +kernel)) rfl, gtb_in (List.mem_of_getElem? (i := 788) (by decide +kernel)) rfl, by decide +kernel⟩, gtb_in (List.mem_of_getElem? (i := 786) (by decide +kernel)) rfl, gtb_in (List.mem_of_getElem? (i := 787) (by decide +kernel)) rfl⟩
theorem ck_X10_takeOrGive : CkV yX10_takeOrGive cX10_takeOrGive 3 none 2 := ⟨⟨gtb_in (List.mem_of_getElem? (i := 111) (by decide +kernel)) rfl, gtb_in (List.mem_of_getElem? (i := 896) (by decide +kernel)) rfl, by decide +kernel⟩, gtb_in (List.mem_of_getElem? (i := 894) (by decide +kernel)) rfl, gtb_in (List.mem_of_getElem? (i := 895) (by decide +kernel)) rfl⟩
theorem ck_X10_whyNotMarry : CkV yX10_whyNotMarry cX10_whyNotMarry 3 (some .int) 2 := ⟨⟨gtb_in (List.mem_of_getElem? (i := 111) (by decide +kernel)) rfl, gtb_in (List.mem_of_getElem? (i := 859) (by decide +kernel)) rfl, by decide +kernel⟩, gtb_in (List.mem_of_getElem? (i := 857) (by decide +kernel)) rfl, gtb_in (List.mem_of_getElem? (i := 858) (by decide +kernel)) rfl⟩
theorem ck_X10_whyNotTake : CkV yX10_whyNotTake cX10_whyNotTake 3 (some .int) 2 := ⟨⟨gtb_in (List.mem_of_getElem? (i := 111) (by decide +kernel)) rfl, gtb_in (List.mem_of_getElem? (i := 886) (by decide +kernel)) rfl, by decide +kernel⟩, gtb_in (List.mem_of_getElem? (i := 884) (by decide +kernel)) rfl, gtb_in (List.mem_of_getElem? (i := 885) (by decide +kernel)) rfl⟩
theorem ck_X10_wish : CkV yX10_wish cX10_wish 4 (some .int) 2 := ⟨⟨gtb_in (List.mem_of_getElem? (i := 111) (by decide +kernel)) rfl, gtb_in (List.mem_of_getElem? (i := 933) (by decide +kernel)) rfl, by decide +kernel⟩, gtb_in (List.mem_of_getElem? (i := 932) (by decide +kernel)) rfl, gtb_in (List.mem_of_getElem? (i := 25) (by decide +kernel)) rfl⟩
theorem ck_X11_acceptTrial : CkV yX11_acceptTrial cX11_acceptTrial 2 none 1 := ⟨⟨gtb_in (List.mem_of_getElem? (i := 106) (by decide +kernel)) rfl, gtb_in (List.mem_of_getElem? (i := 998) (by decide +kernel)) rfl, by decide +kernel⟩, gtb_in (List.mem_of_getElem? (i := 997) (by decide +kernel)) rfl, gtb_in (List.mem_of_getElem? (i := 30) (by decide +kernel)) rfl⟩
theorem ck_X11_draw : CkV yX11_draw cX11_draw 2 (some .int) 1 := ⟨⟨gtb_in (List.mem_of_getElem? (i := 106) (by decide +kernel)) rfl, gtb_in (List.mem_of_getElem? (i := 1010) (by decide +kernel)) rfl, by decide +kernel⟩, gtb_in (List.mem_of_getElem? (i := 1009) (by decide +kernel)) rfl, gtb_in (List.mem_of_getElem? (i := 32) (by decide +kernel)) rfl⟩
theorem ck_X11_drawDeed : CkV yX11_drawDeed cX11_drawDeed 4 (some .int) 0 := ⟨⟨gtb_in (List.mem_of_getElem? (i := 106) (by decide +kernel)) rfl, gtb_in (List.mem_of_getElem? (i := 1006) (by decide +kernel)) rfl, by decide +kernel⟩, gtb_in (List.mem_of_getElem? (i := 1005) (by decide +kernel)) rfl, gtb_in (List.mem_of_getElem? (i := 31) (by decide +kernel)) rfl⟩
theorem ck_X11_endurance : CkV yX11_endurance cX11_endurance 5 (some .int) 3 := ⟨⟨gtb_in (List.mem_of_getElem? (i := 106) (by decide +kernel)) rfl, gtb_in (List.mem_of_getElem? (i := 1111) (by decide +kernel)) rfl, by decide +kernel⟩, gtb_in (List.mem_of_getElem? (i := 1110) (by decide +kernel)) rfl, gtb_in (List.mem_of_getElem? (i := 38) (by decide +kernel)) rfl⟩
theorem ck_X11_isEither : CkS yX11_isEither cX11_isEither 1 (some .boolean) 1 := ⟨⟨gtb_in (List.mem_of_getElem? (i := 106) (by decide +kernel)) rfl, gtb_in (List.mem_of_getElem? (i := 1046) (by decide +kernel)) rfl, by decide +kernel⟩, gtb_in (List.mem_of_getElem? (i := 1045) (by decide +kernel)) rfl⟩
theorem ck_X11_isHouse : CkV yX11_isHouse cX11_isHouse 3 (some .boolean) 2 := ⟨⟨gtb_in (List.mem_of_getElem? (i := 106) (by decide +kernel)) rfl, gtb_in (List.mem_of_getElem? (i := 1206) (by decide +kernel)) rfl, by decide +kernel⟩, gtb_in (List.mem_of_getElem? (i := 1205) (by decide +kernel)) rfl, gtb_in (List.mem_of_getElem? (i := 43) (by decide +kernel)) rfl⟩
theorem ck_X11_isMatchingQuestion : CkV yX11_isMatchingQuestion cX11_isMatchingQuestion 2 (some .boolean) 1 := ⟨⟨gtb_in (List.mem_of_getElem? (i := 106) (by decide +kernel)) rfl, gtb_in (List.mem_of_getElem? (i := 1043) (by decide +kernel)) rfl, by decide +kernel⟩, gtb_in (List.mem_of_getElem? (i := 1042) (by decide +kernel)) rfl, gtb_in (List.mem_of_getElem? (i := 34) (by decide +kernel)) rfl⟩
theorem ck_X11_isTray : CkS yX11_isTray cX11_isTray 1 (some .boolean) 1 := ⟨⟨gtb_in (List.mem_of_getElem? (i := 106) (by decide +kernel)) rfl, gtb_in (List.mem_of_getElem? (i := 952) (by decide +kernel)) rfl, by decide +kernel⟩, gtb_in (List.mem_of_getElem? (i := 951) (by decide +kernel)) rfl⟩
theorem ck_X11_rehearse : CkV yX11_rehearse cX11_rehearse 3 (some .int) 1 := ⟨⟨gtb_in (List.mem_of_getElem? (i := 106) (by decide +kernel)) rfl, gtb_in (List.mem_of_getElem? (i := 956) (by decide +kernel)) rfl, by decide +kernel⟩, gtb_in (List.mem_of_getElem? (i := 955) (by decide +kernel)) rfl, gtb_in (List.mem_of_getElem? (i := 26) (by decide +kernel)) rfl⟩
theorem ck_X11_tapeFour : CkV yX11_tapeFour cX11_tapeFour 3 none 1 := ⟨⟨gtb_in (List.mem_of_getElem? (i := 106) (by decide +kernel)) rfl, gtb_in (List.mem_of_getElem? (i := 498) (by decide +kernel)) rfl, by decide +kernel⟩, gtb_in (List.mem_of_getElem? (i := 497) (by decide +kernel)) rfl, gtb_in (List.mem_of_getElem? (i := 1) (by decide +kernel)) rfl⟩
theorem ck_X12_angersOf : CkV yX12_angersOf cX12_angersOf 4 (some .int) 1 := ⟨⟨gtb_in (List.mem_of_getElem? (i := 117) (by decide +kernel)) rfl, gtb_in (List.mem_of_getElem? (i := 1826) (by decide +kernel)) rfl, by decide +kernel⟩, gtb_in (List.mem_of_getElem? (i := 1825) (by decide +kernel)) rfl, gtb_in (List.mem_of_getElem? (i := 103) (by decide +kernel)) rfl⟩
theorem ck_X12_areIt : CkV yX12_areIt cX12_areIt 4 (some .int) 1 := ⟨⟨gtb_in (List.mem_of_getElem? (i := 117) (by decide +kernel)) rfl, gtb_in (List.mem_of_getElem? (i := 1545) (by decide +kernel)) rfl, by decide +kernel⟩, gtb_in (List.mem_of_getElem? (i := 1544) (by decide +kernel)) rfl, gtb_in (List.mem_of_getElem? (i := 69) (by decide +kernel)) rfl⟩
theorem ck_X12_areTwo : CkV yX12_areTwo cX12_areTwo 5 (some .boolean) 2 := ⟨⟨gtb_in (List.mem_of_getElem? (i := 117) (by decide +kernel)) rfl, gtb_in (List.mem_of_getElem? (i := 1553) (by decide +kernel)) rfl, by decide +kernel⟩, gtb_in (List.mem_of_getElem? (i := 1552) (by decide +kernel)) rfl, gtb_in (List.mem_of_getElem? (i := 70) (by decide +kernel)) rfl⟩
theorem ck_X12_asksPerson : CkV yX12_asksPerson cX12_asksPerson 2 (some .boolean) 1 := ⟨⟨gtb_in (List.mem_of_getElem? (i := 117) (by decide +kernel)) rfl, gtb_in (List.mem_of_getElem? (i := 1740) (by decide +kernel)) rfl, by decide +kernel⟩, gtb_in (List.mem_of_getElem? (i := 1739) (by decide +kernel)) rfl, gtb_in (List.mem_of_getElem? (i := 100) (by decide +kernel)) rfl⟩
theorem ck_X12_begins : CkV yX12_begins cX12_begins 4 none 2 := ⟨⟨gtb_in (List.mem_of_getElem? (i := 117) (by decide +kernel)) rfl, gtb_in (List.mem_of_getElem? (i := 1720) (by decide +kernel)) rfl, by decide +kernel⟩, gtb_in (List.mem_of_getElem? (i := 1719) (by decide +kernel)) rfl, gtb_in (List.mem_of_getElem? (i := 96) (by decide +kernel)) rfl⟩
theorem ck_X12_between : CkS yX12_between cX12_between 5 (some .int) 3 := ⟨⟨gtb_in (List.mem_of_getElem? (i := 117) (by decide +kernel)) rfl, gtb_in (List.mem_of_getElem? (i := 1577) (by decide +kernel)) rfl, by decide +kernel⟩, gtb_in (List.mem_of_getElem? (i := 1576) (by decide +kernel)) rfl⟩
theorem ck_X12_bitsOf : CkS yX12_bitsOf cX12_bitsOf 3 (some .int) 1 := ⟨⟨gtb_in (List.mem_of_getElem? (i := 117) (by decide +kernel)) rfl, gtb_in (List.mem_of_getElem? (i := 1541) (by decide +kernel)) rfl, by decide +kernel⟩, gtb_in (List.mem_of_getElem? (i := 1540) (by decide +kernel)) rfl⟩
theorem ck_X12_breaksOf : CkV yX12_breaksOf cX12_breaksOf 4 (some .int) 1 := ⟨⟨gtb_in (List.mem_of_getElem? (i := 117) (by decide +kernel)) rfl, gtb_in (List.mem_of_getElem? (i := 1728) (by decide +kernel)) rfl, by decide +kernel⟩, gtb_in (List.mem_of_getElem? (i := 1727) (by decide +kernel)) rfl, gtb_in (List.mem_of_getElem? (i := 98) (by decide +kernel)) rfl⟩
theorem ck_X12_codes : CkV yX12_codes cX12_codes 2 none 1 := ⟨⟨gtb_in (List.mem_of_getElem? (i := 117) (by decide +kernel)) rfl, gtb_in (List.mem_of_getElem? (i := 1484) (by decide +kernel)) rfl, by decide +kernel⟩, gtb_in (List.mem_of_getElem? (i := 1483) (by decide +kernel)) rfl, gtb_in (List.mem_of_getElem? (i := 59) (by decide +kernel)) rfl⟩
theorem ck_X12_copiesFrom : CkV yX12_copiesFrom cX12_copiesFrom 4 none 2 := ⟨⟨gtb_in (List.mem_of_getElem? (i := 117) (by decide +kernel)) rfl, gtb_in (List.mem_of_getElem? (i := 1638) (by decide +kernel)) rfl, by decide +kernel⟩, gtb_in (List.mem_of_getElem? (i := 1637) (by decide +kernel)) rfl, gtb_in (List.mem_of_getElem? (i := 84) (by decide +kernel)) rfl⟩
theorem ck_X12_cut : CkS yX12_cut cX12_cut 3 (some .long) 2 := ⟨⟨gtb_in (List.mem_of_getElem? (i := 117) (by decide +kernel)) rfl, gtb_in (List.mem_of_getElem? (i := 1842) (by decide +kernel)) rfl, by decide +kernel⟩, gtb_in (List.mem_of_getElem? (i := 1841) (by decide +kernel)) rfl⟩
theorem ck_X12_does : CkV yX12_does cX12_does 5 none 1 := ⟨⟨gtb_in (List.mem_of_getElem? (i := 117) (by decide +kernel)) rfl, gtb_in (List.mem_of_getElem? (i := 1630) (by decide +kernel)) rfl, by decide +kernel⟩, gtb_in (List.mem_of_getElem? (i := 1629) (by decide +kernel)) rfl, gtb_in (List.mem_of_getElem? (i := 82) (by decide +kernel)) rfl⟩
theorem ck_X12_draw : CkV yX12_draw cX12_draw 2 (some .int) 1 := ⟨⟨gtb_in (List.mem_of_getElem? (i := 117) (by decide +kernel)) rfl, gtb_in (List.mem_of_getElem? (i := 1694) (by decide +kernel)) rfl, by decide +kernel⟩, gtb_in (List.mem_of_getElem? (i := 1693) (by decide +kernel)) rfl, gtb_in (List.mem_of_getElem? (i := 91) (by decide +kernel)) rfl⟩
theorem ck_X12_drawn : CkV yX12_drawn cX12_drawn 4 (some .int) 0 := ⟨⟨gtb_in (List.mem_of_getElem? (i := 117) (by decide +kernel)) rfl, gtb_in (List.mem_of_getElem? (i := 1690) (by decide +kernel)) rfl, by decide +kernel⟩, gtb_in (List.mem_of_getElem? (i := 1689) (by decide +kernel)) rfl, gtb_in (List.mem_of_getElem? (i := 90) (by decide +kernel)) rfl⟩
theorem ck_X12_eats : CkV yX12_eats cX12_eats 2 (some .boolean) 1 := ⟨⟨gtb_in (List.mem_of_getElem? (i := 117) (by decide +kernel)) rfl, gtb_in (List.mem_of_getElem? (i := 1449) (by decide +kernel)) rfl, by decide +kernel⟩, gtb_in (List.mem_of_getElem? (i := 1448) (by decide +kernel)) rfl, gtb_in (List.mem_of_getElem? (i := 51) (by decide +kernel)) rfl⟩
theorem ck_X12_fails : CkV yX12_fails cX12_fails 2 none 1 := ⟨⟨gtb_in (List.mem_of_getElem? (i := 117) (by decide +kernel)) rfl, gtb_in (List.mem_of_getElem? (i := 1445) (by decide +kernel)) rfl, by decide +kernel⟩, gtb_in (List.mem_of_getElem? (i := 1444) (by decide +kernel)) rfl, gtb_in (List.mem_of_getElem? (i := 50) (by decide +kernel)) rfl⟩
theorem ck_X12_found : CkV yX12_found cX12_found 2 (some .int) 1 := ⟨⟨gtb_in (List.mem_of_getElem? (i := 117) (by decide +kernel)) rfl, gtb_in (List.mem_of_getElem? (i := 1745) (by decide +kernel)) rfl, by decide +kernel⟩, gtb_in (List.mem_of_getElem? (i := 1744) (by decide +kernel)) rfl, gtb_in (List.mem_of_getElem? (i := 101) (by decide +kernel)) rfl⟩
theorem ck_X12_goesIn : CkV yX12_goesIn cX12_goesIn 2 (some .boolean) 1 := ⟨⟨gtb_in (List.mem_of_getElem? (i := 117) (by decide +kernel)) rfl, gtb_in (List.mem_of_getElem? (i := 1490) (by decide +kernel)) rfl, by decide +kernel⟩, gtb_in (List.mem_of_getElem? (i := 1489) (by decide +kernel)) rfl, gtb_in (List.mem_of_getElem? (i := 60) (by decide +kernel)) rfl⟩
theorem ck_X12_goesMatch : CkV yX12_goesMatch cX12_goesMatch 7 none 4 := ⟨⟨gtb_in (List.mem_of_getElem? (i := 117) (by decide +kernel)) rfl, gtb_in (List.mem_of_getElem? (i := 1724) (by decide +kernel)) rfl, by decide +kernel⟩, gtb_in (List.mem_of_getElem? (i := 1723) (by decide +kernel)) rfl, gtb_in (List.mem_of_getElem? (i := 97) (by decide +kernel)) rfl⟩
theorem ck_X12_goodAs : CkV yX12_goodAs cX12_goodAs 3 (some .int) 2 := ⟨⟨gtb_in (List.mem_of_getElem? (i := 117) (by decide +kernel)) rfl, gtb_in (List.mem_of_getElem? (i := 1732) (by decide +kernel)) rfl, by decide +kernel⟩, gtb_in (List.mem_of_getElem? (i := 1731) (by decide +kernel)) rfl, gtb_in (List.mem_of_getElem? (i := 99) (by decide +kernel)) rfl⟩
theorem ck_X12_goodOf : CkV yX12_goodOf cX12_goodOf 3 (some .int) 2 := ⟨⟨gtb_in (List.mem_of_getElem? (i := 117) (by decide +kernel)) rfl, gtb_in (List.mem_of_getElem? (i := 1570) (by decide +kernel)) rfl, by decide +kernel⟩, gtb_in (List.mem_of_getElem? (i := 1569) (by decide +kernel)) rfl, gtb_in (List.mem_of_getElem? (i := 73) (by decide +kernel)) rfl⟩
theorem ck_X12_goodOfWed : CkV yX12_goodOfWed cX12_goodOfWed 3 (some .int) 0 := ⟨⟨gtb_in (List.mem_of_getElem? (i := 117) (by decide +kernel)) rfl, gtb_in (List.mem_of_getElem? (i := 1673) (by decide +kernel)) rfl, by decide +kernel⟩, gtb_in (List.mem_of_getElem? (i := 1672) (by decide +kernel)) rfl, gtb_in (List.mem_of_getElem? (i := 88) (by decide +kernel)) rfl⟩
theorem ck_X12_hasRoom : CkV yX12_hasRoom cX12_hasRoom 2 (some .boolean) 1 := ⟨⟨gtb_in (List.mem_of_getElem? (i := 117) (by decide +kernel)) rfl, gtb_in (List.mem_of_getElem? (i := 1626) (by decide +kernel)) rfl, by decide +kernel⟩, gtb_in (List.mem_of_getElem? (i := 1625) (by decide +kernel)) rfl, gtb_in (List.mem_of_getElem? (i := 81) (by decide +kernel)) rfl⟩
theorem ck_X12_holdsFor : CkV yX12_holdsFor cX12_holdsFor 4 (some .int) 2 := ⟨⟨gtb_in (List.mem_of_getElem? (i := 117) (by decide +kernel)) rfl, gtb_in (List.mem_of_getElem? (i := 1708) (by decide +kernel)) rfl, by decide +kernel⟩, gtb_in (List.mem_of_getElem? (i := 1707) (by decide +kernel)) rfl, gtb_in (List.mem_of_getElem? (i := 93) (by decide +kernel)) rfl⟩
theorem ck_X12_is : CkV yX12_is cX12_is 2 (some .boolean) 1 := ⟨⟨gtb_in (List.mem_of_getElem? (i := 117) (by decide +kernel)) rfl, gtb_in (List.mem_of_getElem? (i := 1437) (by decide +kernel)) rfl, by decide +kernel⟩, gtb_in (List.mem_of_getElem? (i := 1436) (by decide +kernel)) rfl, gtb_in (List.mem_of_getElem? (i := 48) (by decide +kernel)) rfl⟩
theorem ck_X12_isAgain : CkV yX12_isAgain cX12_isAgain 2 none 0 := ⟨⟨gtb_in (List.mem_of_getElem? (i := 117) (by decide +kernel)) rfl, gtb_in (List.mem_of_getElem? (i := 1677) (by decide +kernel)) rfl, by decide +kernel⟩, gtb_in (List.mem_of_getElem? (i := 1676) (by decide +kernel)) rfl, gtb_in (List.mem_of_getElem? (i := 89) (by decide +kernel)) rfl⟩
theorem ck_X12_isAhead : CkV yX12_isAhead cX12_isAhead 2 none 0 := ⟨⟨gtb_in (List.mem_of_getElem? (i := 117) (by decide +kernel)) rfl, gtb_in (List.mem_of_getElem? (i := 1716) (by decide +kernel)) rfl, by decide +kernel⟩, gtb_in (List.mem_of_getElem? (i := 1715) (by decide +kernel)) rfl, gtb_in (List.mem_of_getElem? (i := 95) (by decide +kernel)) rfl⟩
theorem ck_X12_isDigit : CkS yX12_isDigit cX12_isDigit 1 (some .boolean) 1 := ⟨⟨gtb_in (List.mem_of_getElem? (i := 117) (by decide +kernel)) rfl, gtb_in (List.mem_of_getElem? (i := 1428) (by decide +kernel)) rfl, by decide +kernel⟩, gtb_in (List.mem_of_getElem? (i := 1427) (by decide +kernel)) rfl⟩
theorem ck_X12_isIn : CkS yX12_isIn cX12_isIn 3 (some .boolean) 2 := ⟨⟨gtb_in (List.mem_of_getElem? (i := 117) (by decide +kernel)) rfl, gtb_in (List.mem_of_getElem? (i := 1464) (by decide +kernel)) rfl, by decide +kernel⟩, gtb_in (List.mem_of_getElem? (i := 1463) (by decide +kernel)) rfl⟩
theorem ck_X12_isPerson : CkV yX12_isPerson cX12_isPerson 3 (some .boolean) 1 := ⟨⟨gtb_in (List.mem_of_getElem? (i := 117) (by decide +kernel)) rfl, gtb_in (List.mem_of_getElem? (i := 1514) (by decide +kernel)) rfl, by decide +kernel⟩, gtb_in (List.mem_of_getElem? (i := 1513) (by decide +kernel)) rfl, gtb_in (List.mem_of_getElem? (i := 64) (by decide +kernel)) rfl⟩
theorem ck_X12_isSmall : CkS yX12_isSmall cX12_isSmall 1 (some .boolean) 1 := ⟨⟨gtb_in (List.mem_of_getElem? (i := 117) (by decide +kernel)) rfl, gtb_in (List.mem_of_getElem? (i := 1418) (by decide +kernel)) rfl, by decide +kernel⟩, gtb_in (List.mem_of_getElem? (i := 1417) (by decide +kernel)) rfl⟩
theorem ck_X12_isThing : CkV yX12_isThing cX12_isThing 3 (some .boolean) 1 := ⟨⟨gtb_in (List.mem_of_getElem? (i := 117) (by decide +kernel)) rfl, gtb_in (List.mem_of_getElem? (i := 1526) (by decide +kernel)) rfl, by decide +kernel⟩, gtb_in (List.mem_of_getElem? (i := 1525) (by decide +kernel)) rfl, gtb_in (List.mem_of_getElem? (i := 66) (by decide +kernel)) rfl⟩
theorem ck_X12_keeps : CkV yX12_keeps cX12_keeps 2 none 0 := ⟨⟨gtb_in (List.mem_of_getElem? (i := 117) (by decide +kernel)) rfl, gtb_in (List.mem_of_getElem? (i := 1596) (by decide +kernel)) rfl, by decide +kernel⟩, gtb_in (List.mem_of_getElem? (i := 1595) (by decide +kernel)) rfl, gtb_in (List.mem_of_getElem? (i := 76) (by decide +kernel)) rfl⟩
theorem ck_X12_keepsAhead : CkV yX12_keepsAhead cX12_keepsAhead 2 none 0 := ⟨⟨gtb_in (List.mem_of_getElem? (i := 117) (by decide +kernel)) rfl, gtb_in (List.mem_of_getElem? (i := 1712) (by decide +kernel)) rfl, by decide +kernel⟩, gtb_in (List.mem_of_getElem? (i := 1711) (by decide +kernel)) rfl, gtb_in (List.mem_of_getElem? (i := 94) (by decide +kernel)) rfl⟩
theorem ck_X12_keyAt : CkV yX12_keyAt cX12_keyAt 4 (some .int) 0 := ⟨⟨gtb_in (List.mem_of_getElem? (i := 117) (by decide +kernel)) rfl, gtb_in (List.mem_of_getElem? (i := 1422) (by decide +kernel)) rfl, by decide +kernel⟩, gtb_in (List.mem_of_getElem? (i := 1421) (by decide +kernel)) rfl, gtb_in (List.mem_of_getElem? (i := 46) (by decide +kernel)) rfl⟩
theorem ck_X12_laysPairs : CkV yX12_laysPairs cX12_laysPairs 5 none 2 := ⟨⟨gtb_in (List.mem_of_getElem? (i := 117) (by decide +kernel)) rfl, gtb_in (List.mem_of_getElem? (i := 1704) (by decide +kernel)) rfl, by decide +kernel⟩, gtb_in (List.mem_of_getElem? (i := 1703) (by decide +kernel)) rfl, gtb_in (List.mem_of_getElem? (i := 92) (by decide +kernel)) rfl⟩
theorem ck_X12_laysTwo : CkV yX12_laysTwo cX12_laysTwo 7 none 2 := ⟨⟨gtb_in (List.mem_of_getElem? (i := 117) (by decide +kernel)) rfl, gtb_in (List.mem_of_getElem? (i := 1558) (by decide +kernel)) rfl, by decide +kernel⟩, gtb_in (List.mem_of_getElem? (i := 1557) (by decide +kernel)) rfl, gtb_in (List.mem_of_getElem? (i := 71) (by decide +kernel)) rfl⟩
theorem ck_X12_listOf : CkV yX12_listOf cX12_listOf 4 (some .int) 1 := ⟨⟨gtb_in (List.mem_of_getElem? (i := 117) (by decide +kernel)) rfl, gtb_in (List.mem_of_getElem? (i := 1518) (by decide +kernel)) rfl, by decide +kernel⟩, gtb_in (List.mem_of_getElem? (i := 1517) (by decide +kernel)) rfl, gtb_in (List.mem_of_getElem? (i := 65) (by decide +kernel)) rfl⟩
theorem ck_X12_listedMany : CkV yX12_listedMany cX12_listedMany 3 (some .int) 0 := ⟨⟨gtb_in (List.mem_of_getElem? (i := 117) (by decide +kernel)) rfl, gtb_in (List.mem_of_getElem? (i := 1862) (by decide +kernel)) rfl, by decide +kernel⟩, gtb_in (List.mem_of_getElem? (i := 1861) (by decide +kernel)) rfl, gtb_in (List.mem_of_getElem? (i := 104) (by decide +kernel)) rfl⟩
theorem ck_X12_loathers : CkV yX12_loathers cX12_loathers 4 (some .int) 1 := ⟨⟨gtb_in (List.mem_of_getElem? (i := 117) (by decide +kernel)) rfl, gtb_in (List.mem_of_getElem? (i := 1534) (by decide +kernel)) rfl, by decide +kernel⟩, gtb_in (List.mem_of_getElem? (i := 1533) (by decide +kernel)) rfl, gtb_in (List.mem_of_getElem? (i := 67) (by decide +kernel)) rfl⟩
theorem ck_X12_mayWed : CkV yX12_mayWed cX12_mayWed 3 (some .boolean) 2 := ⟨⟨gtb_in (List.mem_of_getElem? (i := 117) (by decide +kernel)) rfl, gtb_in (List.mem_of_getElem? (i := 1588) (by decide +kernel)) rfl, by decide +kernel⟩, gtb_in (List.mem_of_getElem? (i := 1587) (by decide +kernel)) rfl, gtb_in (List.mem_of_getElem? (i := 75) (by decide +kernel)) rfl⟩
theorem ck_X12_next : CkV yX12_next cX12_next 2 none 0 := ⟨⟨gtb_in (List.mem_of_getElem? (i := 117) (by decide +kernel)) rfl, gtb_in (List.mem_of_getElem? (i := 1411) (by decide +kernel)) rfl, by decide +kernel⟩, gtb_in (List.mem_of_getElem? (i := 1410) (by decide +kernel)) rfl, gtb_in (List.mem_of_getElem? (i := 44) (by decide +kernel)) rfl⟩
theorem ck_X12_noTray : CkV yX12_noTray cX12_noTray 2 (some .int) 1 := ⟨⟨gtb_in (List.mem_of_getElem? (i := 117) (by decide +kernel)) rfl, gtb_in (List.mem_of_getElem? (i := 1661) (by decide +kernel)) rfl, by decide +kernel⟩, gtb_in (List.mem_of_getElem? (i := 1660) (by decide +kernel)) rfl, gtb_in (List.mem_of_getElem? (i := 85) (by decide +kernel)) rfl⟩
theorem ck_X12_notes : CkV yX12_notes cX12_notes 2 none 0 := ⟨⟨gtb_in (List.mem_of_getElem? (i := 117) (by decide +kernel)) rfl, gtb_in (List.mem_of_getElem? (i := 1604) (by decide +kernel)) rfl, by decide +kernel⟩, gtb_in (List.mem_of_getElem? (i := 1603) (by decide +kernel)) rfl, gtb_in (List.mem_of_getElem? (i := 78) (by decide +kernel)) rfl⟩
theorem ck_X12_parts : CkV yX12_parts cX12_parts 2 none 1 := ⟨⟨gtb_in (List.mem_of_getElem? (i := 117) (by decide +kernel)) rfl, gtb_in (List.mem_of_getElem? (i := 1612) (by decide +kernel)) rfl, by decide +kernel⟩, gtb_in (List.mem_of_getElem? (i := 1611) (by decide +kernel)) rfl, gtb_in (List.mem_of_getElem? (i := 79) (by decide +kernel)) rfl⟩
theorem ck_X12_plain : CkS yX12_plain cX12_plain 2 none 1 := ⟨⟨gtb_in (List.mem_of_getElem? (i := 117) (by decide +kernel)) rfl, gtb_in (List.mem_of_getElem? (i := 1296) (by decide +kernel)) rfl, by decide +kernel⟩, gtb_in (List.mem_of_getElem? (i := 1295) (by decide +kernel)) rfl⟩
theorem ck_X12_rareOf : CkV yX12_rareOf cX12_rareOf 2 (some .int) 1 := ⟨⟨gtb_in (List.mem_of_getElem? (i := 117) (by decide +kernel)) rfl, gtb_in (List.mem_of_getElem? (i := 1538) (by decide +kernel)) rfl, by decide +kernel⟩, gtb_in (List.mem_of_getElem? (i := 1537) (by decide +kernel)) rfl, gtb_in (List.mem_of_getElem? (i := 68) (by decide +kernel)) rfl⟩
theorem ck_X12_rareOfAll : CkV yX12_rareOfAll cX12_rareOfAll 4 (some .int) 1 := ⟨⟨gtb_in (List.mem_of_getElem? (i := 117) (by decide +kernel)) rfl, gtb_in (List.mem_of_getElem? (i := 1562) (by decide +kernel)) rfl, by decide +kernel⟩, gtb_in (List.mem_of_getElem? (i := 1561) (by decide +kernel)) rfl, gtb_in (List.mem_of_getElem? (i := 72) (by decide +kernel)) rfl⟩
theorem ck_X12_readAtom : CkV yX12_readAtom cX12_readAtom 2 none 1 := ⟨⟨gtb_in (List.mem_of_getElem? (i := 117) (by decide +kernel)) rfl, gtb_in (List.mem_of_getElem? (i := 1480) (by decide +kernel)) rfl, by decide +kernel⟩, gtb_in (List.mem_of_getElem? (i := 1479) (by decide +kernel)) rfl, gtb_in (List.mem_of_getElem? (i := 58) (by decide +kernel)) rfl⟩
theorem ck_X12_readBoth : CkV yX12_readBoth cX12_readBoth 2 none 1 := ⟨⟨gtb_in (List.mem_of_getElem? (i := 117) (by decide +kernel)) rfl, gtb_in (List.mem_of_getElem? (i := 1498) (by decide +kernel)) rfl, by decide +kernel⟩, gtb_in (List.mem_of_getElem? (i := 1497) (by decide +kernel)) rfl, gtb_in (List.mem_of_getElem? (i := 62) (by decide +kernel)) rfl⟩
theorem ck_X12_readLaw : CkV yX12_readLaw cX12_readLaw 3 none 1 := ⟨⟨gtb_in (List.mem_of_getElem? (i := 117) (by decide +kernel)) rfl, gtb_in (List.mem_of_getElem? (i := 1468) (by decide +kernel)) rfl, by decide +kernel⟩, gtb_in (List.mem_of_getElem? (i := 1467) (by decide +kernel)) rfl, gtb_in (List.mem_of_getElem? (i := 55) (by decide +kernel)) rfl⟩
theorem ck_X12_readLine : CkV yX12_readLine cX12_readLine 1 none 0 := ⟨⟨gtb_in (List.mem_of_getElem? (i := 117) (by decide +kernel)) rfl, gtb_in (List.mem_of_getElem? (i := 1433) (by decide +kernel)) rfl, by decide +kernel⟩, gtb_in (List.mem_of_getElem? (i := 1432) (by decide +kernel)) rfl, gtb_in (List.mem_of_getElem? (i := 47) (by decide +kernel)) rfl⟩
theorem ck_X12_readPerson : CkV yX12_readPerson cX12_readPerson 6 none 0 := ⟨⟨gtb_in (List.mem_of_getElem? (i := 117) (by decide +kernel)) rfl, gtb_in (List.mem_of_getElem? (i := 1457) (by decide +kernel)) rfl, by decide +kernel⟩, gtb_in (List.mem_of_getElem? (i := 1456) (by decide +kernel)) rfl, gtb_in (List.mem_of_getElem? (i := 53) (by decide +kernel)) rfl⟩
theorem ck_X12_readSum : CkV yX12_readSum cX12_readSum 3 none 1 := ⟨⟨gtb_in (List.mem_of_getElem? (i := 117) (by decide +kernel)) rfl, gtb_in (List.mem_of_getElem? (i := 1472) (by decide +kernel)) rfl, by decide +kernel⟩, gtb_in (List.mem_of_getElem? (i := 1471) (by decide +kernel)) rfl, gtb_in (List.mem_of_getElem? (i := 56) (by decide +kernel)) rfl⟩
theorem ck_X12_readTerm : CkV yX12_readTerm cX12_readTerm 2 none 1 := ⟨⟨gtb_in (List.mem_of_getElem? (i := 117) (by decide +kernel)) rfl, gtb_in (List.mem_of_getElem? (i := 1476) (by decide +kernel)) rfl, by decide +kernel⟩, gtb_in (List.mem_of_getElem? (i := 1475) (by decide +kernel)) rfl, gtb_in (List.mem_of_getElem? (i := 57) (by decide +kernel)) rfl⟩
theorem ck_X12_readThing : CkV yX12_readThing cX12_readThing 3 none 0 := ⟨⟨gtb_in (List.mem_of_getElem? (i := 117) (by decide +kernel)) rfl, gtb_in (List.mem_of_getElem? (i := 1441) (by decide +kernel)) rfl, by decide +kernel⟩, gtb_in (List.mem_of_getElem? (i := 1440) (by decide +kernel)) rfl, gtb_in (List.mem_of_getElem? (i := 49) (by decide +kernel)) rfl⟩
theorem ck_X12_readTruth : CkV yX12_readTruth cX12_readTruth 2 none 1 := ⟨⟨gtb_in (List.mem_of_getElem? (i := 117) (by decide +kernel)) rfl, gtb_in (List.mem_of_getElem? (i := 1494) (by decide +kernel)) rfl, by decide +kernel⟩, gtb_in (List.mem_of_getElem? (i := 1493) (by decide +kernel)) rfl, gtb_in (List.mem_of_getElem? (i := 61) (by decide +kernel)) rfl⟩
theorem ck_X12_readUnit : CkV yX12_readUnit cX12_readUnit 3 none 1 := ⟨⟨gtb_in (List.mem_of_getElem? (i := 117) (by decide +kernel)) rfl, gtb_in (List.mem_of_getElem? (i := 1502) (by decide +kernel)) rfl, by decide +kernel⟩, gtb_in (List.mem_of_getElem? (i := 1501) (by decide +kernel)) rfl, gtb_in (List.mem_of_getElem? (i := 63) (by decide +kernel)) rfl⟩
theorem ck_X12_reckons : CkV yX12_reckons cX12_reckons 5 (some .int) 1 := ⟨⟨gtb_in (List.mem_of_getElem? (i := 117) (by decide +kernel)) rfl, gtb_in (List.mem_of_getElem? (i := 1574) (by decide +kernel)) rfl, by decide +kernel⟩, gtb_in (List.mem_of_getElem? (i := 1573) (by decide +kernel)) rfl, gtb_in (List.mem_of_getElem? (i := 74) (by decide +kernel)) rfl⟩
theorem ck_X12_see : CkV yX12_see cX12_see 2 (some .int) 1 := ⟨⟨gtb_in (List.mem_of_getElem? (i := 117) (by decide +kernel)) rfl, gtb_in (List.mem_of_getElem? (i := 1415) (by decide +kernel)) rfl, by decide +kernel⟩, gtb_in (List.mem_of_getElem? (i := 1414) (by decide +kernel)) rfl, gtb_in (List.mem_of_getElem? (i := 45) (by decide +kernel)) rfl⟩
theorem ck_X12_sharedBy : CkV yX12_sharedBy cX12_sharedBy 4 (some .int) 1 := ⟨⟨gtb_in (List.mem_of_getElem? (i := 117) (by decide +kernel)) rfl, gtb_in (List.mem_of_getElem? (i := 1814) (by decide +kernel)) rfl, by decide +kernel⟩, gtb_in (List.mem_of_getElem? (i := 1813) (by decide +kernel)) rfl, gtb_in (List.mem_of_getElem? (i := 102) (by decide +kernel)) rfl⟩
theorem ck_X12_takesOne : CkV yX12_takesOne cX12_takesOne 4 (some .int) 2 := ⟨⟨gtb_in (List.mem_of_getElem? (i := 117) (by decide +kernel)) rfl, gtb_in (List.mem_of_getElem? (i := 1453) (by decide +kernel)) rfl, by decide +kernel⟩, gtb_in (List.mem_of_getElem? (i := 1452) (by decide +kernel)) rfl, gtb_in (List.mem_of_getElem? (i := 52) (by decide +kernel)) rfl⟩
theorem ck_X12_takesThings : CkV yX12_takesThings cX12_takesThings 4 (some .int) 0 := ⟨⟨gtb_in (List.mem_of_getElem? (i := 117) (by decide +kernel)) rfl, gtb_in (List.mem_of_getElem? (i := 1461) (by decide +kernel)) rfl, by decide +kernel⟩, gtb_in (List.mem_of_getElem? (i := 1460) (by decide +kernel)) rfl, gtb_in (List.mem_of_getElem? (i := 54) (by decide +kernel)) rfl⟩
theorem ck_X12_tells : CkV yX12_tells cX12_tells 3 (some .int) 1 := ⟨⟨gtb_in (List.mem_of_getElem? (i := 117) (by decide +kernel)) rfl, gtb_in (List.mem_of_getElem? (i := 1665) (by decide +kernel)) rfl, by decide +kernel⟩, gtb_in (List.mem_of_getElem? (i := 1664) (by decide +kernel)) rfl, gtb_in (List.mem_of_getElem? (i := 86) (by decide +kernel)) rfl⟩
theorem ck_X12_wedMany : CkV yX12_wedMany cX12_wedMany 3 (some .int) 0 := ⟨⟨gtb_in (List.mem_of_getElem? (i := 117) (by decide +kernel)) rfl, gtb_in (List.mem_of_getElem? (i := 1669) (by decide +kernel)) rfl, by decide +kernel⟩, gtb_in (List.mem_of_getElem? (i := 1668) (by decide +kernel)) rfl, gtb_in (List.mem_of_getElem? (i := 87) (by decide +kernel)) rfl⟩
theorem ck_X12_weds : CkV yX12_weds cX12_weds 3 none 2 := ⟨⟨gtb_in (List.mem_of_getElem? (i := 117) (by decide +kernel)) rfl, gtb_in (List.mem_of_getElem? (i := 1600) (by decide +kernel)) rfl, by decide +kernel⟩, gtb_in (List.mem_of_getElem? (i := 1599) (by decide +kernel)) rfl, gtb_in (List.mem_of_getElem? (i := 77) (by decide +kernel)) rfl⟩
theorem ck_X12_whyNot : CkV yX12_whyNot cX12_whyNot 6 (some .int) 1 := ⟨⟨gtb_in (List.mem_of_getElem? (i := 117) (by decide +kernel)) rfl, gtb_in (List.mem_of_getElem? (i := 1620) (by decide +kernel)) rfl, by decide +kernel⟩, gtb_in (List.mem_of_getElem? (i := 1619) (by decide +kernel)) rfl, gtb_in (List.mem_of_getElem? (i := 80) (by decide +kernel)) rfl⟩
theorem ck_X12_within : CkS yX12_within cX12_within 6 (some .boolean) 3 := ⟨⟨gtb_in (List.mem_of_getElem? (i := 117) (by decide +kernel)) rfl, gtb_in (List.mem_of_getElem? (i := 1407) (by decide +kernel)) rfl, by decide +kernel⟩, gtb_in (List.mem_of_getElem? (i := 1406) (by decide +kernel)) rfl⟩
theorem ck_X12_year : CkV yX12_year cX12_year 7 (some .int) 2 := ⟨⟨gtb_in (List.mem_of_getElem? (i := 117) (by decide +kernel)) rfl, gtb_in (List.mem_of_getElem? (i := 1634) (by decide +kernel)) rfl, by decide +kernel⟩, gtb_in (List.mem_of_getElem? (i := 1633) (by decide +kernel)) rfl, gtb_in (List.mem_of_getElem? (i := 83) (by decide +kernel)) rfl⟩
theorem ck_X1_effect : CkV yX1_effect cX1_effect 3 (some .int) 1 := ⟨⟨gtb_in (List.mem_of_getElem? (i := 115) (by decide +kernel)) rfl, gtb_in (List.mem_of_getElem? (i := 1162) (by decide +kernel)) rfl, by decide +kernel⟩, gtb_in (List.mem_of_getElem? (i := 1161) (by decide +kernel)) rfl, gtb_in (List.mem_of_getElem? (i := 39) (by decide +kernel)) rfl⟩
theorem ck_X1_fewest : CkV yX1_fewest cX1_fewest 5 (some .int) 2 := ⟨⟨gtb_in (List.mem_of_getElem? (i := 115) (by decide +kernel)) rfl, gtb_in (List.mem_of_getElem? (i := 1158) (by decide +kernel)) rfl, by decide +kernel⟩, gtb_in (List.mem_of_getElem? (i := 1156) (by decide +kernel)) rfl, gtb_in (List.mem_of_getElem? (i := 1157) (by decide +kernel)) rfl⟩
theorem ck_X1_findAlike : CkV yX1_findAlike cX1_findAlike 4 (some .int) 1 := ⟨⟨gtb_in (List.mem_of_getElem? (i := 115) (by decide +kernel)) rfl, gtb_in (List.mem_of_getElem? (i := 1167) (by decide +kernel)) rfl, by decide +kernel⟩, gtb_in (List.mem_of_getElem? (i := 1166) (by decide +kernel)) rfl, gtb_in (List.mem_of_getElem? (i := 40) (by decide +kernel)) rfl⟩
theorem ck_X1_reachesBar : CkV yX1_reachesBar cX1_reachesBar 3 (some .boolean) 1 := ⟨⟨gtb_in (List.mem_of_getElem? (i := 115) (by decide +kernel)) rfl, gtb_in (List.mem_of_getElem? (i := 1176) (by decide +kernel)) rfl, by decide +kernel⟩, gtb_in (List.mem_of_getElem? (i := 1175) (by decide +kernel)) rfl, gtb_in (List.mem_of_getElem? (i := 42) (by decide +kernel)) rfl⟩
theorem ck_X1_seek : CkV yX1_seek cX1_seek 7 (some .boolean) 4 := ⟨⟨gtb_in (List.mem_of_getElem? (i := 115) (by decide +kernel)) rfl, gtb_in (List.mem_of_getElem? (i := 1172) (by decide +kernel)) rfl, by decide +kernel⟩, gtb_in (List.mem_of_getElem? (i := 1171) (by decide +kernel)) rfl, gtb_in (List.mem_of_getElem? (i := 41) (by decide +kernel)) rfl⟩
theorem ck_X2_bringBack : CkV yX2_bringBack cX2_bringBack 3 none 2 := ⟨⟨gtb_in (List.mem_of_getElem? (i := 113) (by decide +kernel)) rfl, gtb_in (List.mem_of_getElem? (i := 945) (by decide +kernel)) rfl, by decide +kernel⟩, gtb_in (List.mem_of_getElem? (i := 943) (by decide +kernel)) rfl, gtb_in (List.mem_of_getElem? (i := 944) (by decide +kernel)) rfl⟩
theorem ck_X2_forget : CkV yX2_forget cX2_forget 1 none 0 := ⟨⟨gtb_in (List.mem_of_getElem? (i := 113) (by decide +kernel)) rfl, gtb_in (List.mem_of_getElem? (i := 756) (by decide +kernel)) rfl, by decide +kernel⟩, gtb_in (List.mem_of_getElem? (i := 754) (by decide +kernel)) rfl, gtb_in (List.mem_of_getElem? (i := 755) (by decide +kernel)) rfl⟩
theorem ck_X2_keep : CkV yX2_keep cX2_keep 2 none 1 := ⟨⟨gtb_in (List.mem_of_getElem? (i := 113) (by decide +kernel)) rfl, gtb_in (List.mem_of_getElem? (i := 865) (by decide +kernel)) rfl, by decide +kernel⟩, gtb_in (List.mem_of_getElem? (i := 863) (by decide +kernel)) rfl, gtb_in (List.mem_of_getElem? (i := 864) (by decide +kernel)) rfl⟩
theorem ck_X4_add : CkV yX4_add cX4_add 2 none 1 := ⟨⟨gtb_in (List.mem_of_getElem? (i := 108) (by decide +kernel)) rfl, gtb_in (List.mem_of_getElem? (i := 170) (by decide +kernel)) rfl, by decide +kernel⟩, gtb_in (List.mem_of_getElem? (i := 168) (by decide +kernel)) rfl, gtb_in (List.mem_of_getElem? (i := 169) (by decide +kernel)) rfl⟩
theorem ck_X4_become : CkV yX4_become cX4_become 2 none 1 := ⟨⟨gtb_in (List.mem_of_getElem? (i := 108) (by decide +kernel)) rfl, gtb_in (List.mem_of_getElem? (i := 746) (by decide +kernel)) rfl, by decide +kernel⟩, gtb_in (List.mem_of_getElem? (i := 744) (by decide +kernel)) rfl, gtb_in (List.mem_of_getElem? (i := 745) (by decide +kernel)) rfl⟩
theorem ck_X4_ofTerm : CkS yX4_ofTerm cX4_ofTerm 1 (some .int) 1 := ⟨⟨gtb_in (List.mem_of_getElem? (i := 108) (by decide +kernel)) rfl, gtb_in (List.mem_of_getElem? (i := 166) (by decide +kernel)) rfl, by decide +kernel⟩, gtb_in (List.mem_of_getElem? (i := 165) (by decide +kernel)) rfl⟩
theorem ck_X5_adopt : CkV yX5_adopt cX5_adopt 4 none 3 := ⟨⟨gtb_in (List.mem_of_getElem? (i := 109) (by decide +kernel)) rfl, gtb_in (List.mem_of_getElem? (i := 679) (by decide +kernel)) rfl, by decide +kernel⟩, gtb_in (List.mem_of_getElem? (i := 677) (by decide +kernel)) rfl, gtb_in (List.mem_of_getElem? (i := 678) (by decide +kernel)) rfl⟩
theorem ck_X5_become : CkV yX5_become cX5_become 2 none 1 := ⟨⟨gtb_in (List.mem_of_getElem? (i := 109) (by decide +kernel)) rfl, gtb_in (List.mem_of_getElem? (i := 751) (by decide +kernel)) rfl, by decide +kernel⟩, gtb_in (List.mem_of_getElem? (i := 749) (by decide +kernel)) rfl, gtb_in (List.mem_of_getElem? (i := 750) (by decide +kernel)) rfl⟩
theorem ck_X5_clear : CkV yX5_clear cX5_clear 2 none 0 := ⟨⟨gtb_in (List.mem_of_getElem? (i := 109) (by decide +kernel)) rfl, gtb_in (List.mem_of_getElem? (i := 517) (by decide +kernel)) rfl, by decide +kernel⟩, gtb_in (List.mem_of_getElem? (i := 515) (by decide +kernel)) rfl, gtb_in (List.mem_of_getElem? (i := 516) (by decide +kernel)) rfl⟩
theorem ck_X5_copyList : CkV yX5_copyList cX5_copyList 4 none 2 := ⟨⟨gtb_in (List.mem_of_getElem? (i := 109) (by decide +kernel)) rfl, gtb_in (List.mem_of_getElem? (i := 910) (by decide +kernel)) rfl, by decide +kernel⟩, gtb_in (List.mem_of_getElem? (i := 908) (by decide +kernel)) rfl, gtb_in (List.mem_of_getElem? (i := 909) (by decide +kernel)) rfl⟩
theorem ck_X5_drop : CkV yX5_drop cX5_drop 3 none 2 := ⟨⟨gtb_in (List.mem_of_getElem? (i := 109) (by decide +kernel)) rfl, gtb_in (List.mem_of_getElem? (i := 900) (by decide +kernel)) rfl, by decide +kernel⟩, gtb_in (List.mem_of_getElem? (i := 898) (by decide +kernel)) rfl, gtb_in (List.mem_of_getElem? (i := 899) (by decide +kernel)) rfl⟩
theorem ck_X5_has : CkV yX5_has cX5_has 3 (some .boolean) 2 := ⟨⟨gtb_in (List.mem_of_getElem? (i := 109) (by decide +kernel)) rfl, gtb_in (List.mem_of_getElem? (i := 780) (by decide +kernel)) rfl, by decide +kernel⟩, gtb_in (List.mem_of_getElem? (i := 778) (by decide +kernel)) rfl, gtb_in (List.mem_of_getElem? (i := 779) (by decide +kernel)) rfl⟩
theorem ck_X5_marry : CkV yX5_marry cX5_marry 3 none 2 := ⟨⟨gtb_in (List.mem_of_getElem? (i := 109) (by decide +kernel)) rfl, gtb_in (List.mem_of_getElem? (i := 870) (by decide +kernel)) rfl, by decide +kernel⟩, gtb_in (List.mem_of_getElem? (i := 868) (by decide +kernel)) rfl, gtb_in (List.mem_of_getElem? (i := 869) (by decide +kernel)) rfl⟩
theorem ck_X5_split : CkV yX5_split cX5_split 3 none 1 := ⟨⟨gtb_in (List.mem_of_getElem? (i := 109) (by decide +kernel)) rfl, gtb_in (List.mem_of_getElem? (i := 878) (by decide +kernel)) rfl, by decide +kernel⟩, gtb_in (List.mem_of_getElem? (i := 876) (by decide +kernel)) rfl, gtb_in (List.mem_of_getElem? (i := 877) (by decide +kernel)) rfl⟩
theorem ck_X6_answer : CkV yX6_answer cX6_answer 5 (some .int) 1 := ⟨⟨gtb_in (List.mem_of_getElem? (i := 114) (by decide +kernel)) rfl, gtb_in (List.mem_of_getElem? (i := 1068) (by decide +kernel)) rfl, by decide +kernel⟩, gtb_in (List.mem_of_getElem? (i := 1066) (by decide +kernel)) rfl, gtb_in (List.mem_of_getElem? (i := 1067) (by decide +kernel)) rfl⟩
theorem ck_X6_choose : CkV yX6_choose cX6_choose 8 none 1 := ⟨⟨gtb_in (List.mem_of_getElem? (i := 114) (by decide +kernel)) rfl, gtb_in (List.mem_of_getElem? (i := 1054) (by decide +kernel)) rfl, by decide +kernel⟩, gtb_in (List.mem_of_getElem? (i := 1053) (by decide +kernel)) rfl, gtb_in (List.mem_of_getElem? (i := 35) (by decide +kernel)) rfl⟩
theorem ck_X6_close : CkV yX6_close cX6_close 3 none 2 := ⟨⟨gtb_in (List.mem_of_getElem? (i := 114) (by decide +kernel)) rfl, gtb_in (List.mem_of_getElem? (i := 1128) (by decide +kernel)) rfl, by decide +kernel⟩, gtb_in (List.mem_of_getElem? (i := 1126) (by decide +kernel)) rfl, gtb_in (List.mem_of_getElem? (i := 1127) (by decide +kernel)) rfl⟩
theorem ck_X6_firstBreak : CkV yX6_firstBreak cX6_firstBreak 4 (some .int) 0 := ⟨⟨gtb_in (List.mem_of_getElem? (i := 114) (by decide +kernel)) rfl, gtb_in (List.mem_of_getElem? (i := 1085) (by decide +kernel)) rfl, by decide +kernel⟩, gtb_in (List.mem_of_getElem? (i := 1083) (by decide +kernel)) rfl, gtb_in (List.mem_of_getElem? (i := 1084) (by decide +kernel)) rfl⟩
theorem ck_X6_follow : CkV yX6_follow cX6_follow 5 none 1 := ⟨⟨gtb_in (List.mem_of_getElem? (i := 114) (by decide +kernel)) rfl, gtb_in (List.mem_of_getElem? (i := 1060) (by decide +kernel)) rfl, by decide +kernel⟩, gtb_in (List.mem_of_getElem? (i := 1058) (by decide +kernel)) rfl, gtb_in (List.mem_of_getElem? (i := 1059) (by decide +kernel)) rfl⟩
theorem ck_X6_goodNow : CkV yX6_goodNow cX6_goodNow 3 (some .int) 1 := ⟨⟨gtb_in (List.mem_of_getElem? (i := 114) (by decide +kernel)) rfl, gtb_in (List.mem_of_getElem? (i := 1072) (by decide +kernel)) rfl, by decide +kernel⟩, gtb_in (List.mem_of_getElem? (i := 1071) (by decide +kernel)) rfl, gtb_in (List.mem_of_getElem? (i := 36) (by decide +kernel)) rfl⟩
theorem ck_X6_isOpen : CkV yX6_isOpen cX6_isOpen 3 (some .boolean) 2 := ⟨⟨gtb_in (List.mem_of_getElem? (i := 114) (by decide +kernel)) rfl, gtb_in (List.mem_of_getElem? (i := 1035) (by decide +kernel)) rfl, by decide +kernel⟩, gtb_in (List.mem_of_getElem? (i := 1033) (by decide +kernel)) rfl, gtb_in (List.mem_of_getElem? (i := 1034) (by decide +kernel)) rfl⟩
theorem ck_X6_joins : CkV yX6_joins cX6_joins 4 (some .boolean) 3 := ⟨⟨gtb_in (List.mem_of_getElem? (i := 114) (by decide +kernel)) rfl, gtb_in (List.mem_of_getElem? (i := 1149) (by decide +kernel)) rfl, by decide +kernel⟩, gtb_in (List.mem_of_getElem? (i := 1147) (by decide +kernel)) rfl, gtb_in (List.mem_of_getElem? (i := 1148) (by decide +kernel)) rfl⟩
theorem ck_X6_leaveAlone : CkV yX6_leaveAlone cX6_leaveAlone 2 none 0 := ⟨⟨gtb_in (List.mem_of_getElem? (i := 114) (by decide +kernel)) rfl, gtb_in (List.mem_of_getElem? (i := 1064) (by decide +kernel)) rfl, by decide +kernel⟩, gtb_in (List.mem_of_getElem? (i := 1062) (by decide +kernel)) rfl, gtb_in (List.mem_of_getElem? (i := 1063) (by decide +kernel)) rfl⟩
theorem ck_X6_seat : CkV yX6_seat cX6_seat 3 none 1 := ⟨⟨gtb_in (List.mem_of_getElem? (i := 114) (by decide +kernel)) rfl, gtb_in (List.mem_of_getElem? (i := 1094) (by decide +kernel)) rfl, by decide +kernel⟩, gtb_in (List.mem_of_getElem? (i := 1092) (by decide +kernel)) rfl, gtb_in (List.mem_of_getElem? (i := 1093) (by decide +kernel)) rfl⟩
theorem ck_X6_settle : CkV yX6_settle cX6_settle 3 (some .boolean) 1 := ⟨⟨gtb_in (List.mem_of_getElem? (i := 114) (by decide +kernel)) rfl, gtb_in (List.mem_of_getElem? (i := 1081) (by decide +kernel)) rfl, by decide +kernel⟩, gtb_in (List.mem_of_getElem? (i := 1080) (by decide +kernel)) rfl, gtb_in (List.mem_of_getElem? (i := 37) (by decide +kernel)) rfl⟩
theorem ck_X6_solve : CkV yX6_solve cX6_solve 3 none 0 := ⟨⟨gtb_in (List.mem_of_getElem? (i := 114) (by decide +kernel)) rfl, gtb_in (List.mem_of_getElem? (i := 1050) (by decide +kernel)) rfl, by decide +kernel⟩, gtb_in (List.mem_of_getElem? (i := 1048) (by decide +kernel)) rfl, gtb_in (List.mem_of_getElem? (i := 1049) (by decide +kernel)) rfl⟩
theorem ck_X6_survey : CkV yX6_survey cX6_survey 6 none 1 := ⟨⟨gtb_in (List.mem_of_getElem? (i := 114) (by decide +kernel)) rfl, gtb_in (List.mem_of_getElem? (i := 1019) (by decide +kernel)) rfl, by decide +kernel⟩, gtb_in (List.mem_of_getElem? (i := 1017) (by decide +kernel)) rfl, gtb_in (List.mem_of_getElem? (i := 1018) (by decide +kernel)) rfl⟩
theorem ck_X6_tally : CkV yX6_tally cX6_tally 7 (some .int) 2 := ⟨⟨gtb_in (List.mem_of_getElem? (i := 114) (by decide +kernel)) rfl, gtb_in (List.mem_of_getElem? (i := 1029) (by decide +kernel)) rfl, by decide +kernel⟩, gtb_in (List.mem_of_getElem? (i := 1028) (by decide +kernel)) rfl, gtb_in (List.mem_of_getElem? (i := 33) (by decide +kernel)) rfl⟩
theorem ck_X7_blame : CkV yX7_blame cX7_blame 2 (some .boolean) 1 := ⟨⟨gtb_in (List.mem_of_getElem? (i := 112) (by decide +kernel)) rfl, gtb_in (List.mem_of_getElem? (i := 650) (by decide +kernel)) rfl, by decide +kernel⟩, gtb_in (List.mem_of_getElem? (i := 649) (by decide +kernel)) rfl, gtb_in (List.mem_of_getElem? (i := 6) (by decide +kernel)) rfl⟩
theorem ck_X7_comparison : CkV yX7_comparison cX7_comparison 1 (some .int) 0 := ⟨⟨gtb_in (List.mem_of_getElem? (i := 112) (by decide +kernel)) rfl, gtb_in (List.mem_of_getElem? (i := 731) (by decide +kernel)) rfl, by decide +kernel⟩, gtb_in (List.mem_of_getElem? (i := 730) (by decide +kernel)) rfl, gtb_in (List.mem_of_getElem? (i := 21) (by decide +kernel)) rfl⟩
theorem ck_X7_goDeeper : CkV yX7_goDeeper cX7_goDeeper 2 (some .boolean) 1 := ⟨⟨gtb_in (List.mem_of_getElem? (i := 112) (by decide +kernel)) rfl, gtb_in (List.mem_of_getElem? (i := 700) (by decide +kernel)) rfl, by decide +kernel⟩, gtb_in (List.mem_of_getElem? (i := 699) (by decide +kernel)) rfl, gtb_in (List.mem_of_getElem? (i := 16) (by decide +kernel)) rfl⟩
theorem ck_X7_isDigit : CkS yX7_isDigit cX7_isDigit 1 (some .boolean) 1 := ⟨⟨gtb_in (List.mem_of_getElem? (i := 112) (by decide +kernel)) rfl, gtb_in (List.mem_of_getElem? (i := 527) (by decide +kernel)) rfl, by decide +kernel⟩, gtb_in (List.mem_of_getElem? (i := 526) (by decide +kernel)) rfl⟩
theorem ck_X7_isLetter : CkS yX7_isLetter cX7_isLetter 1 (some .boolean) 1 := ⟨⟨gtb_in (List.mem_of_getElem? (i := 112) (by decide +kernel)) rfl, gtb_in (List.mem_of_getElem? (i := 524) (by decide +kernel)) rfl, by decide +kernel⟩, gtb_in (List.mem_of_getElem? (i := 523) (by decide +kernel)) rfl⟩
theorem ck_X7_isWord : CkV yX7_isWord cX7_isWord 3 (some .boolean) 1 := ⟨⟨gtb_in (List.mem_of_getElem? (i := 112) (by decide +kernel)) rfl, gtb_in (List.mem_of_getElem? (i := 621) (by decide +kernel)) rfl, by decide +kernel⟩, gtb_in (List.mem_of_getElem? (i := 620) (by decide +kernel)) rfl, gtb_in (List.mem_of_getElem? (i := 4) (by decide +kernel)) rfl⟩
theorem ck_X7_next : CkV yX7_next cX7_next 2 none 0 := ⟨⟨gtb_in (List.mem_of_getElem? (i := 112) (by decide +kernel)) rfl, gtb_in (List.mem_of_getElem? (i := 521) (by decide +kernel)) rfl, by decide +kernel⟩, gtb_in (List.mem_of_getElem? (i := 520) (by decide +kernel)) rfl, gtb_in (List.mem_of_getElem? (i := 2) (by decide +kernel)) rfl⟩
theorem ck_X7_pass : CkV yX7_pass cX7_pass 2 (some .boolean) 1 := ⟨⟨gtb_in (List.mem_of_getElem? (i := 112) (by decide +kernel)) rfl, gtb_in (List.mem_of_getElem? (i := 684) (by decide +kernel)) rfl, by decide +kernel⟩, gtb_in (List.mem_of_getElem? (i := 683) (by decide +kernel)) rfl, gtb_in (List.mem_of_getElem? (i := 12) (by decide +kernel)) rfl⟩
theorem ck_X7_passWord : CkV yX7_passWord cX7_passWord 2 (some .boolean) 1 := ⟨⟨gtb_in (List.mem_of_getElem? (i := 112) (by decide +kernel)) rfl, gtb_in (List.mem_of_getElem? (i := 669) (by decide +kernel)) rfl, by decide +kernel⟩, gtb_in (List.mem_of_getElem? (i := 668) (by decide +kernel)) rfl, gtb_in (List.mem_of_getElem? (i := 10) (by decide +kernel)) rfl⟩
theorem ck_X7_readAtom : CkV yX7_readAtom cX7_readAtom 3 (some .boolean) 1 := ⟨⟨gtb_in (List.mem_of_getElem? (i := 112) (by decide +kernel)) rfl, gtb_in (List.mem_of_getElem? (i := 696) (by decide +kernel)) rfl, by decide +kernel⟩, gtb_in (List.mem_of_getElem? (i := 695) (by decide +kernel)) rfl, gtb_in (List.mem_of_getElem? (i := 15) (by decide +kernel)) rfl⟩
theorem ck_X7_readBoth : CkV yX7_readBoth cX7_readBoth 4 (some .boolean) 1 := ⟨⟨gtb_in (List.mem_of_getElem? (i := 112) (by decide +kernel)) rfl, gtb_in (List.mem_of_getElem? (i := 722) (by decide +kernel)) rfl, by decide +kernel⟩, gtb_in (List.mem_of_getElem? (i := 721) (by decide +kernel)) rfl, gtb_in (List.mem_of_getElem? (i := 19) (by decide +kernel)) rfl⟩
theorem ck_X7_readLine : CkV yX7_readLine cX7_readLine 1 (some .boolean) 0 := ⟨⟨gtb_in (List.mem_of_getElem? (i := 112) (by decide +kernel)) rfl, gtb_in (List.mem_of_getElem? (i := 616) (by decide +kernel)) rfl, by decide +kernel⟩, gtb_in (List.mem_of_getElem? (i := 615) (by decide +kernel)) rfl, gtb_in (List.mem_of_getElem? (i := 3) (by decide +kernel)) rfl⟩
theorem ck_X7_readNumber : CkV yX7_readNumber cX7_readNumber 5 (some .int) 2 := ⟨⟨gtb_in (List.mem_of_getElem? (i := 112) (by decide +kernel)) rfl, gtb_in (List.mem_of_getElem? (i := 655) (by decide +kernel)) rfl, by decide +kernel⟩, gtb_in (List.mem_of_getElem? (i := 654) (by decide +kernel)) rfl, gtb_in (List.mem_of_getElem? (i := 7) (by decide +kernel)) rfl⟩
theorem ck_X7_readPerson : CkV yX7_readPerson cX7_readPerson 4 (some .boolean) 0 := ⟨⟨gtb_in (List.mem_of_getElem? (i := 112) (by decide +kernel)) rfl, gtb_in (List.mem_of_getElem? (i := 664) (by decide +kernel)) rfl, by decide +kernel⟩, gtb_in (List.mem_of_getElem? (i := 663) (by decide +kernel)) rfl, gtb_in (List.mem_of_getElem? (i := 9) (by decide +kernel)) rfl⟩
theorem ck_X7_readSum : CkV yX7_readSum cX7_readSum 5 (some .boolean) 1 := ⟨⟨gtb_in (List.mem_of_getElem? (i := 112) (by decide +kernel)) rfl, gtb_in (List.mem_of_getElem? (i := 688) (by decide +kernel)) rfl, by decide +kernel⟩, gtb_in (List.mem_of_getElem? (i := 687) (by decide +kernel)) rfl, gtb_in (List.mem_of_getElem? (i := 13) (by decide +kernel)) rfl⟩
theorem ck_X7_readTerm : CkV yX7_readTerm cX7_readTerm 4 (some .boolean) 1 := ⟨⟨gtb_in (List.mem_of_getElem? (i := 112) (by decide +kernel)) rfl, gtb_in (List.mem_of_getElem? (i := 692) (by decide +kernel)) rfl, by decide +kernel⟩, gtb_in (List.mem_of_getElem? (i := 691) (by decide +kernel)) rfl, gtb_in (List.mem_of_getElem? (i := 14) (by decide +kernel)) rfl⟩
theorem ck_X7_readText : CkV yX7_readText cX7_readText 4 none 1 := ⟨⟨gtb_in (List.mem_of_getElem? (i := 112) (by decide +kernel)) rfl, gtb_in (List.mem_of_getElem? (i := 506) (by decide +kernel)) rfl, by decide +kernel⟩, gtb_in (List.mem_of_getElem? (i := 504) (by decide +kernel)) rfl, gtb_in (List.mem_of_getElem? (i := 505) (by decide +kernel)) rfl⟩
theorem ck_X7_readThing : CkV yX7_readThing cX7_readThing 3 (some .boolean) 0 := ⟨⟨gtb_in (List.mem_of_getElem? (i := 112) (by decide +kernel)) rfl, gtb_in (List.mem_of_getElem? (i := 646) (by decide +kernel)) rfl, by decide +kernel⟩, gtb_in (List.mem_of_getElem? (i := 645) (by decide +kernel)) rfl, gtb_in (List.mem_of_getElem? (i := 5) (by decide +kernel)) rfl⟩
theorem ck_X7_readThings : CkV yX7_readThings cX7_readThings 4 (some .int) 0 := ⟨⟨gtb_in (List.mem_of_getElem? (i := 112) (by decide +kernel)) rfl, gtb_in (List.mem_of_getElem? (i := 674) (by decide +kernel)) rfl, by decide +kernel⟩, gtb_in (List.mem_of_getElem? (i := 673) (by decide +kernel)) rfl, gtb_in (List.mem_of_getElem? (i := 11) (by decide +kernel)) rfl⟩
theorem ck_X7_readTruth : CkV yX7_readTruth cX7_readTruth 4 (some .boolean) 1 := ⟨⟨gtb_in (List.mem_of_getElem? (i := 112) (by decide +kernel)) rfl, gtb_in (List.mem_of_getElem? (i := 718) (by decide +kernel)) rfl, by decide +kernel⟩, gtb_in (List.mem_of_getElem? (i := 717) (by decide +kernel)) rfl, gtb_in (List.mem_of_getElem? (i := 18) (by decide +kernel)) rfl⟩
theorem ck_X7_readUnit : CkV yX7_readUnit cX7_readUnit 4 (some .boolean) 1 := ⟨⟨gtb_in (List.mem_of_getElem? (i := 112) (by decide +kernel)) rfl, gtb_in (List.mem_of_getElem? (i := 726) (by decide +kernel)) rfl, by decide +kernel⟩, gtb_in (List.mem_of_getElem? (i := 725) (by decide +kernel)) rfl, gtb_in (List.mem_of_getElem? (i := 20) (by decide +kernel)) rfl⟩
theorem ck_X7_refuse : CkV yX7_refuse cX7_refuse 1 (some .boolean) 0 := ⟨⟨gtb_in (List.mem_of_getElem? (i := 112) (by decide +kernel)) rfl, gtb_in (List.mem_of_getElem? (i := 659) (by decide +kernel)) rfl, by decide +kernel⟩, gtb_in (List.mem_of_getElem? (i := 658) (by decide +kernel)) rfl, gtb_in (List.mem_of_getElem? (i := 8) (by decide +kernel)) rfl⟩
theorem ck_X7_termWord : CkV yX7_termWord cX7_termWord 1 (some .int) 0 := ⟨⟨gtb_in (List.mem_of_getElem? (i := 112) (by decide +kernel)) rfl, gtb_in (List.mem_of_getElem? (i := 705) (by decide +kernel)) rfl, by decide +kernel⟩, gtb_in (List.mem_of_getElem? (i := 704) (by decide +kernel)) rfl, gtb_in (List.mem_of_getElem? (i := 17) (by decide +kernel)) rfl⟩
theorem ck_X8_become : CkV yX8_become cX8_become 2 none 1 := ⟨⟨gtb_in (List.mem_of_getElem? (i := 107) (by decide +kernel)) rfl, gtb_in (List.mem_of_getElem? (i := 739) (by decide +kernel)) rfl, by decide +kernel⟩, gtb_in (List.mem_of_getElem? (i := 737) (by decide +kernel)) rfl, gtb_in (List.mem_of_getElem? (i := 738) (by decide +kernel)) rfl⟩
theorem ck_X8_clear : CkV yX8_clear cX8_clear 1 none 0 := ⟨⟨gtb_in (List.mem_of_getElem? (i := 107) (by decide +kernel)) rfl, gtb_in (List.mem_of_getElem? (i := 513) (by decide +kernel)) rfl, by decide +kernel⟩, gtb_in (List.mem_of_getElem? (i := 511) (by decide +kernel)) rfl, gtb_in (List.mem_of_getElem? (i := 512) (by decide +kernel)) rfl⟩
theorem ck_X8_everybody : CkV yX8_everybody cX8_everybody 1 (some .int) 0 := ⟨⟨gtb_in (List.mem_of_getElem? (i := 107) (by decide +kernel)) rfl, gtb_in (List.mem_of_getElem? (i := 1025) (by decide +kernel)) rfl, by decide +kernel⟩, gtb_in (List.mem_of_getElem? (i := 1023) (by decide +kernel)) rfl, gtb_in (List.mem_of_getElem? (i := 1024) (by decide +kernel)) rfl⟩
theorem ck_X8_setFirstLaws : CkV yX8_setFirstLaws cX8_setFirstLaws 1 none 0 := ⟨⟨gtb_in (List.mem_of_getElem? (i := 107) (by decide +kernel)) rfl, gtb_in (List.mem_of_getElem? (i := 163) (by decide +kernel)) rfl, by decide +kernel⟩, gtb_in (List.mem_of_getElem? (i := 162) (by decide +kernel)) rfl, gtb_in (List.mem_of_getElem? (i := 0) (by decide +kernel)) rfl⟩
theorem ck_X8_traitsBut : CkV yX8_traitsBut cX8_traitsBut 4 (some .int) 1 := ⟨⟨gtb_in (List.mem_of_getElem? (i := 107) (by decide +kernel)) rfl, gtb_in (List.mem_of_getElem? (i := 1222) (by decide +kernel)) rfl, by decide +kernel⟩, gtb_in (List.mem_of_getElem? (i := 1220) (by decide +kernel)) rfl, gtb_in (List.mem_of_getElem? (i := 1221) (by decide +kernel)) rfl⟩
theorem ck_X8_whoAre : CkV yX8_whoAre cX8_whoAre 4 (some .int) 1 := ⟨⟨gtb_in (List.mem_of_getElem? (i := 107) (by decide +kernel)) rfl, gtb_in (List.mem_of_getElem? (i := 798) (by decide +kernel)) rfl, by decide +kernel⟩, gtb_in (List.mem_of_getElem? (i := 796) (by decide +kernel)) rfl, gtb_in (List.mem_of_getElem? (i := 797) (by decide +kernel)) rfl⟩
theorem ck_X9_cut : CkV yX9_cut cX9_cut 3 (some .long) 1 := ⟨⟨gtb_in (List.mem_of_getElem? (i := 116) (by decide +kernel)) rfl, gtb_in (List.mem_of_getElem? (i := 1245) (by decide +kernel)) rfl, by decide +kernel⟩, gtb_in (List.mem_of_getElem? (i := 1243) (by decide +kernel)) rfl, gtb_in (List.mem_of_getElem? (i := 1244) (by decide +kernel)) rfl⟩
theorem ck_X9_lay : CkV yX9_lay cX9_lay 4 none 2 := ⟨⟨gtb_in (List.mem_of_getElem? (i := 116) (by decide +kernel)) rfl, gtb_in (List.mem_of_getElem? (i := 1234) (by decide +kernel)) rfl, by decide +kernel⟩, gtb_in (List.mem_of_getElem? (i := 1232) (by decide +kernel)) rfl, gtb_in (List.mem_of_getElem? (i := 1233) (by decide +kernel)) rfl⟩
