theorem ml_RL_100 : Cond.methodLink RL 100 yX12_stable ∈ gtb := gtb_in (List.mem_of_getElem? (i := 1746) (by decide +kernel)) rfl
theorem ml_RL_101 : Cond.methodLink RL 101 yX11_breaks ∈ gtb := gtb_in (List.mem_of_getElem? (i := 1087) (by decide +kernel)) rfl
theorem ml_RL_105 : Cond.methodLink RL 105 yX12_breaks ∈ gtb := gtb_in (List.mem_of_getElem? (i := 1750) (by decide +kernel)) rfl
theorem ml_RL_106 : Cond.methodLink RL 106 yX11_matchAll ∈ gtb := gtb_in (List.mem_of_getElem? (i := 1096) (by decide +kernel)) rfl
theorem ml_RL_109 : Cond.methodLink RL 109 yX12_matchAll ∈ gtb := gtb_in (List.mem_of_getElem? (i := 1754) (by decide +kernel)) rfl
theorem ml_RL_110 : Cond.methodLink RL 110 yX11_dearest ∈ gtb := gtb_in (List.mem_of_getElem? (i := 1100) (by decide +kernel)) rfl
theorem ml_RL_113 : Cond.methodLink RL 113 yX12_dearest ∈ gtb := gtb_in (List.mem_of_getElem? (i := 1758) (by decide +kernel)) rfl
theorem ml_RL_114 : Cond.methodLink RL 114 yX11_holds ∈ gtb := gtb_in (List.mem_of_getElem? (i := 1104) (by decide +kernel)) rfl
theorem ml_RL_117 : Cond.methodLink RL 117 yX12_holds ∈ gtb := gtb_in (List.mem_of_getElem? (i := 1762) (by decide +kernel)) rfl
theorem ml_RL_118 : Cond.methodLink RL 118 yX11_goodIn ∈ gtb := gtb_in (List.mem_of_getElem? (i := 1116) (by decide +kernel)) rfl
theorem ml_RL_121 : Cond.methodLink RL 121 yX12_goodIn ∈ gtb := gtb_in (List.mem_of_getElem? (i := 1766) (by decide +kernel)) rfl
theorem ml_RL_122 : Cond.methodLink RL 122 yX11_lasting ∈ gtb := gtb_in (List.mem_of_getElem? (i := 1120) (by decide +kernel)) rfl
theorem ml_RL_125 : Cond.methodLink RL 125 yX12_lasting ∈ gtb := gtb_in (List.mem_of_getElem? (i := 1770) (by decide +kernel)) rfl
theorem ml_RL_126 : Cond.methodLink RL 126 yX11_later ∈ gtb := gtb_in (List.mem_of_getElem? (i := 1129) (by decide +kernel)) rfl
theorem ml_RL_129 : Cond.methodLink RL 129 yX12_later ∈ gtb := gtb_in (List.mem_of_getElem? (i := 1774) (by decide +kernel)) rfl
theorem ml_RL_13 : Cond.methodLink RL 13 yX11_feed ∈ gtb := gtb_in (List.mem_of_getElem? (i := 491) (by decide +kernel)) rfl
theorem ml_RL_130 : Cond.methodLink RL 130 yX11_byWhen ∈ gtb := gtb_in (List.mem_of_getElem? (i := 1138) (by decide +kernel)) rfl
theorem ml_RL_133 : Cond.methodLink RL 133 yX12_byWhen ∈ gtb := gtb_in (List.mem_of_getElem? (i := 1778) (by decide +kernel)) rfl
theorem ml_RL_134 : Cond.methodLink RL 134 yX11_leftFor ∈ gtb := gtb_in (List.mem_of_getElem? (i := 1142) (by decide +kernel)) rfl
theorem ml_RL_137 : Cond.methodLink RL 137 yX12_leftFor ∈ gtb := gtb_in (List.mem_of_getElem? (i := 1782) (by decide +kernel)) rfl
theorem ml_RL_138 : Cond.methodLink RL 138 yX11_fib ∈ gtb := gtb_in (List.mem_of_getElem? (i := 1151) (by decide +kernel)) rfl
theorem ml_RL_141 : Cond.methodLink RL 141 yX12_fib ∈ gtb := gtb_in (List.mem_of_getElem? (i := 1786) (by decide +kernel)) rfl
theorem ml_RL_142 : Cond.methodLink RL 142 yX11_strikes ∈ gtb := gtb_in (List.mem_of_getElem? (i := 1178) (by decide +kernel)) rfl
theorem ml_RL_145 : Cond.methodLink RL 145 yX12_strikes ∈ gtb := gtb_in (List.mem_of_getElem? (i := 1790) (by decide +kernel)) rfl
theorem ml_RL_146 : Cond.methodLink RL 146 yX11_sharer ∈ gtb := gtb_in (List.mem_of_getElem? (i := 1183) (by decide +kernel)) rfl
theorem ml_RL_149 : Cond.methodLink RL 149 yX12_sharer ∈ gtb := gtb_in (List.mem_of_getElem? (i := 1794) (by decide +kernel)) rfl
theorem ml_RL_150 : Cond.methodLink RL 150 yX11_pieced ∈ gtb := gtb_in (List.mem_of_getElem? (i := 1187) (by decide +kernel)) rfl
theorem ml_RL_153 : Cond.methodLink RL 153 yX12_pieced ∈ gtb := gtb_in (List.mem_of_getElem? (i := 1798) (by decide +kernel)) rfl
theorem ml_RL_154 : Cond.methodLink RL 154 yX11_child ∈ gtb := gtb_in (List.mem_of_getElem? (i := 1195) (by decide +kernel)) rfl
theorem ml_RL_157 : Cond.methodLink RL 157 yX12_child ∈ gtb := gtb_in (List.mem_of_getElem? (i := 1802) (by decide +kernel)) rfl
theorem ml_RL_158 : Cond.methodLink RL 158 yX11_houses ∈ gtb := gtb_in (List.mem_of_getElem? (i := 1199) (by decide +kernel)) rfl
theorem ml_RL_161 : Cond.methodLink RL 161 yX12_houses ∈ gtb := gtb_in (List.mem_of_getElem? (i := 1806) (by decide +kernel)) rfl
theorem ml_RL_162 : Cond.methodLink RL 162 yX11_biggest ∈ gtb := gtb_in (List.mem_of_getElem? (i := 1211) (by decide +kernel)) rfl
theorem ml_RL_165 : Cond.methodLink RL 165 yX12_biggest ∈ gtb := gtb_in (List.mem_of_getElem? (i := 1815) (by decide +kernel)) rfl
theorem ml_RL_166 : Cond.methodLink RL 166 yX11_peace ∈ gtb := gtb_in (List.mem_of_getElem? (i := 1215) (by decide +kernel)) rfl
theorem ml_RL_169 : Cond.methodLink RL 169 yX12_peace ∈ gtb := gtb_in (List.mem_of_getElem? (i := 1819) (by decide +kernel)) rfl
theorem ml_RL_17 : Cond.methodLink RL 17 yX12_feed ∈ gtb := gtb_in (List.mem_of_getElem? (i := 1397) (by decide +kernel)) rfl
theorem ml_RL_170 : Cond.methodLink RL 170 yX11_angry ∈ gtb := gtb_in (List.mem_of_getElem? (i := 1223) (by decide +kernel)) rfl
theorem ml_RL_173 : Cond.methodLink RL 173 yX12_angry ∈ gtb := gtb_in (List.mem_of_getElem? (i := 1827) (by decide +kernel)) rfl
theorem ml_RL_174 : Cond.methodLink RL 174 yX11_numbers ∈ gtb := gtb_in (List.mem_of_getElem? (i := 1227) (by decide +kernel)) rfl
theorem ml_RL_177 : Cond.methodLink RL 177 yX12_numbers ∈ gtb := gtb_in (List.mem_of_getElem? (i := 1831) (by decide +kernel)) rfl
theorem ml_RL_18 : Cond.methodLink RL 18 yX11_bureau ∈ gtb := gtb_in (List.mem_of_getElem? (i := 499) (by decide +kernel)) rfl
theorem ml_RL_180 : Cond.methodLink RL 180 yX11_write ∈ gtb := gtb_in (List.mem_of_getElem? (i := 1235) (by decide +kernel)) rfl
theorem ml_RL_184 : Cond.methodLink RL 184 yX12_write ∈ gtb := gtb_in (List.mem_of_getElem? (i := 1835) (by decide +kernel)) rfl
theorem ml_RL_185 : Cond.methodLink RL 185 yX11_lists ∈ gtb := gtb_in (List.mem_of_getElem? (i := 1246) (by decide +kernel)) rfl
theorem ml_RL_188 : Cond.methodLink RL 188 yX12_lists ∈ gtb := gtb_in (List.mem_of_getElem? (i := 1843) (by decide +kernel)) rfl
theorem ml_RL_189 : Cond.methodLink RL 189 yX11_image ∈ gtb := gtb_in (List.mem_of_getElem? (i := 1251) (by decide +kernel)) rfl
theorem ml_RL_192 : Cond.methodLink RL 192 yX12_image ∈ gtb := gtb_in (List.mem_of_getElem? (i := 1847) (by decide +kernel)) rfl
theorem ml_RL_193 : Cond.methodLink RL 193 yX11_restore ∈ gtb := gtb_in (List.mem_of_getElem? (i := 1276) (by decide +kernel)) rfl
theorem ml_RL_196 : Cond.methodLink RL 196 yX12_restore ∈ gtb := gtb_in (List.mem_of_getElem? (i := 1851) (by decide +kernel)) rfl
theorem ml_RL_197 : Cond.methodLink RL 197 yX11_count ∈ gtb := gtb_in (List.mem_of_getElem? (i := 1280) (by decide +kernel)) rfl
theorem ml_RL_200 : Cond.methodLink RL 200 yX12_count ∈ gtb := gtb_in (List.mem_of_getElem? (i := 1855) (by decide +kernel)) rfl
theorem ml_RL_22 : Cond.methodLink RL 22 yX12_bureau ∈ gtb := gtb_in (List.mem_of_getElem? (i := 1401) (by decide +kernel)) rfl
theorem ml_RL_23 : Cond.methodLink RL 23 yX11_fault ∈ gtb := gtb_in (List.mem_of_getElem? (i := 757) (by decide +kernel)) rfl
theorem ml_RL_26 : Cond.methodLink RL 26 yX12_fault ∈ gtb := gtb_in (List.mem_of_getElem? (i := 1503) (by decide +kernel)) rfl
theorem ml_RL_27 : Cond.methodLink RL 27 yX11_person ∈ gtb := gtb_in (List.mem_of_getElem? (i := 761) (by decide +kernel)) rfl
theorem ml_RL_31 : Cond.methodLink RL 31 yX12_person ∈ gtb := gtb_in (List.mem_of_getElem? (i := 1507) (by decide +kernel)) rfl
theorem ml_RL_32 : Cond.methodLink RL 32 yX11_since ∈ gtb := gtb_in (List.mem_of_getElem? (i := 769) (by decide +kernel)) rfl
theorem ml_RL_35 : Cond.methodLink RL 35 yX12_since ∈ gtb := gtb_in (List.mem_of_getElem? (i := 1519) (by decide +kernel)) rfl
theorem ml_RL_36 : Cond.methodLink RL 36 yX11_thing ∈ gtb := gtb_in (List.mem_of_getElem? (i := 781) (by decide +kernel)) rfl
theorem ml_RL_39 : Cond.methodLink RL 39 yX12_thing ∈ gtb := gtb_in (List.mem_of_getElem? (i := 1527) (by decide +kernel)) rfl
theorem ml_RL_40 : Cond.methodLink RL 40 yX11_pair ∈ gtb := gtb_in (List.mem_of_getElem? (i := 799) (by decide +kernel)) rfl
theorem ml_RL_44 : Cond.methodLink RL 44 yX12_pair ∈ gtb := gtb_in (List.mem_of_getElem? (i := 1546) (by decide +kernel)) rfl
theorem ml_RL_45 : Cond.methodLink RL 45 yX11_good ∈ gtb := gtb_in (List.mem_of_getElem? (i := 816) (by decide +kernel)) rfl
theorem ml_RL_48 : Cond.methodLink RL 48 yX12_good ∈ gtb := gtb_in (List.mem_of_getElem? (i := 1563) (by decide +kernel)) rfl
theorem ml_RL_49 : Cond.methodLink RL 49 yX11_may ∈ gtb := gtb_in (List.mem_of_getElem? (i := 844) (by decide +kernel)) rfl
theorem ml_RL_52 : Cond.methodLink RL 52 yX12_may ∈ gtb := gtb_in (List.mem_of_getElem? (i := 1581) (by decide +kernel)) rfl
theorem ml_RL_53 : Cond.methodLink RL 53 yX11_wed ∈ gtb := gtb_in (List.mem_of_getElem? (i := 852) (by decide +kernel)) rfl
theorem ml_RL_56 : Cond.methodLink RL 56 yX12_wed ∈ gtb := gtb_in (List.mem_of_getElem? (i := 1589) (by decide +kernel)) rfl
theorem ml_RL_57 : Cond.methodLink RL 57 yX11_part ∈ gtb := gtb_in (List.mem_of_getElem? (i := 871) (by decide +kernel)) rfl
theorem ml_RL_60 : Cond.methodLink RL 60 yX12_part ∈ gtb := gtb_in (List.mem_of_getElem? (i := 1605) (by decide +kernel)) rfl
theorem ml_RL_61 : Cond.methodLink RL 61 yX11_takes ∈ gtb := gtb_in (List.mem_of_getElem? (i := 879) (by decide +kernel)) rfl
theorem ml_RL_64 : Cond.methodLink RL 64 yX12_takes ∈ gtb := gtb_in (List.mem_of_getElem? (i := 1613) (by decide +kernel)) rfl
theorem ml_RL_65 : Cond.methodLink RL 65 yX11_copies ∈ gtb := gtb_in (List.mem_of_getElem? (i := 903) (by decide +kernel)) rfl
theorem ml_RL_68 : Cond.methodLink RL 68 yX12_copies ∈ gtb := gtb_in (List.mem_of_getElem? (i := 1639) (by decide +kernel)) rfl
theorem ml_RL_69 : Cond.methodLink RL 69 yX11_years ∈ gtb := gtb_in (List.mem_of_getElem? (i := 914) (by decide +kernel)) rfl
theorem ml_RL_72 : Cond.methodLink RL 72 yX12_years ∈ gtb := gtb_in (List.mem_of_getElem? (i := 1643) (by decide +kernel)) rfl
theorem ml_RL_73 : Cond.methodLink RL 73 yX11_undo ∈ gtb := gtb_in (List.mem_of_getElem? (i := 938) (by decide +kernel)) rfl
theorem ml_RL_76 : Cond.methodLink RL 76 yX12_undo ∈ gtb := gtb_in (List.mem_of_getElem? (i := 1648) (by decide +kernel)) rfl
theorem ml_RL_77 : Cond.methodLink RL 77 yX11_judge ∈ gtb := gtb_in (List.mem_of_getElem? (i := 946) (by decide +kernel)) rfl
theorem ml_RL_80 : Cond.methodLink RL 80 yX12_judge ∈ gtb := gtb_in (List.mem_of_getElem? (i := 1653) (by decide +kernel)) rfl
theorem ml_RL_81 : Cond.methodLink RL 81 yX11_perform ∈ gtb := gtb_in (List.mem_of_getElem? (i := 991) (by decide +kernel)) rfl
theorem ml_RL_84 : Cond.methodLink RL 84 yX12_perform ∈ gtb := gtb_in (List.mem_of_getElem? (i := 1678) (by decide +kernel)) rfl
theorem ml_RL_85 : Cond.methodLink RL 85 yX11_season ∈ gtb := gtb_in (List.mem_of_getElem? (i := 999) (by decide +kernel)) rfl
theorem ml_RL_88 : Cond.methodLink RL 88 yX12_season ∈ gtb := gtb_in (List.mem_of_getElem? (i := 1682) (by decide +kernel)) rfl
theorem ml_RL_89 : Cond.methodLink RL 89 yX11_matchings ∈ gtb := gtb_in (List.mem_of_getElem? (i := 1012) (by decide +kernel)) rfl
theorem ml_RL_92 : Cond.methodLink RL 92 yX12_matchings ∈ gtb := gtb_in (List.mem_of_getElem? (i := 1696) (by decide +kernel)) rfl
theorem ml_RL_93 : Cond.methodLink RL 93 yX11_most ∈ gtb := gtb_in (List.mem_of_getElem? (i := 1036) (by decide +kernel)) rfl
theorem ml_RL_96 : Cond.methodLink RL 96 yX12_most ∈ gtb := gtb_in (List.mem_of_getElem? (i := 1733) (by decide +kernel)) rfl
theorem ml_RL_97 : Cond.methodLink RL 97 yX11_stable ∈ gtb := gtb_in (List.mem_of_getElem? (i := 1073) (by decide +kernel)) rfl
theorem cl_RL_178 : Cond.constantLong RL 178 4294967295 ∈ gtb := gtb_in (List.mem_of_getElem? (i := 1863) (by decide +kernel)) rfl
theorem ck_X11_angry : CkV yX11_angry cX11_angry 3 (some .int) 0 := ⟨⟨gtb_in (List.mem_of_getElem? (i := 106) (by decide +kernel)) rfl, gtb_in (List.mem_of_getElem? (i := 1226) (by decide +kernel)) rfl, by decide +kernel⟩, gtb_in (List.mem_of_getElem? (i := 1224) (by decide +kernel)) rfl, gtb_in (List.mem_of_getElem? (i := 1225) (by decide +kernel)) rfl⟩
theorem ck_X11_biggest : CkV yX11_biggest cX11_biggest 7 (some .int) 2 := ⟨⟨gtb_in (List.mem_of_getElem? (i := 106) (by decide +kernel)) rfl, gtb_in (List.mem_of_getElem? (i := 1214) (by decide +kernel)) rfl, by decide +kernel⟩, gtb_in (List.mem_of_getElem? (i := 1212) (by decide +kernel)) rfl, gtb_in (List.mem_of_getElem? (i := 1213) (by decide +kernel)) rfl⟩
theorem ck_X11_breaks : CkV yX11_breaks cX11_breaks 1 (some .int) 0 := ⟨⟨gtb_in (List.mem_of_getElem? (i := 106) (by decide +kernel)) rfl, gtb_in (List.mem_of_getElem? (i := 1090) (by decide +kernel)) rfl, by decide +kernel⟩, gtb_in (List.mem_of_getElem? (i := 1088) (by decide +kernel)) rfl, gtb_in (List.mem_of_getElem? (i := 1089) (by decide +kernel)) rfl⟩
theorem ck_X11_bureau : CkV yX11_bureau cX11_bureau 2 (some .int) 1 := ⟨⟨gtb_in (List.mem_of_getElem? (i := 106) (by decide +kernel)) rfl, gtb_in (List.mem_of_getElem? (i := 502) (by decide +kernel)) rfl, by decide +kernel⟩, gtb_in (List.mem_of_getElem? (i := 500) (by decide +kernel)) rfl, gtb_in (List.mem_of_getElem? (i := 501) (by decide +kernel)) rfl⟩
theorem ck_X11_byWhen : CkV yX11_byWhen cX11_byWhen 4 (some .int) 2 := ⟨⟨gtb_in (List.mem_of_getElem? (i := 106) (by decide +kernel)) rfl, gtb_in (List.mem_of_getElem? (i := 1141) (by decide +kernel)) rfl, by decide +kernel⟩, gtb_in (List.mem_of_getElem? (i := 1139) (by decide +kernel)) rfl, gtb_in (List.mem_of_getElem? (i := 1140) (by decide +kernel)) rfl⟩
theorem ck_X11_child : CkV yX11_child cX11_child 7 (some .int) 2 := ⟨⟨gtb_in (List.mem_of_getElem? (i := 106) (by decide +kernel)) rfl, gtb_in (List.mem_of_getElem? (i := 1198) (by decide +kernel)) rfl, by decide +kernel⟩, gtb_in (List.mem_of_getElem? (i := 1196) (by decide +kernel)) rfl, gtb_in (List.mem_of_getElem? (i := 1197) (by decide +kernel)) rfl⟩
theorem ck_X11_copies : CkV yX11_copies cX11_copies 3 (some .int) 2 := ⟨⟨gtb_in (List.mem_of_getElem? (i := 106) (by decide +kernel)) rfl, gtb_in (List.mem_of_getElem? (i := 906) (by decide +kernel)) rfl, by decide +kernel⟩, gtb_in (List.mem_of_getElem? (i := 904) (by decide +kernel)) rfl, gtb_in (List.mem_of_getElem? (i := 905) (by decide +kernel)) rfl⟩
theorem ck_X11_count : CkV yX11_count cX11_count 2 (some .int) 1 := ⟨⟨gtb_in (List.mem_of_getElem? (i := 106) (by decide +kernel)) rfl, gtb_in (List.mem_of_getElem? (i := 1283) (by decide +kernel)) rfl, by decide +kernel⟩, gtb_in (List.mem_of_getElem? (i := 1281) (by decide +kernel)) rfl, gtb_in (List.mem_of_getElem? (i := 1282) (by decide +kernel)) rfl⟩
theorem ck_X11_dearest : CkV yX11_dearest cX11_dearest 6 (some .int) 1 := ⟨⟨gtb_in (List.mem_of_getElem? (i := 106) (by decide +kernel)) rfl, gtb_in (List.mem_of_getElem? (i := 1103) (by decide +kernel)) rfl, by decide +kernel⟩, gtb_in (List.mem_of_getElem? (i := 1101) (by decide +kernel)) rfl, gtb_in (List.mem_of_getElem? (i := 1102) (by decide +kernel)) rfl⟩
theorem ck_X11_fault : CkV yX11_fault cX11_fault 2 (some .int) 1 := ⟨⟨gtb_in (List.mem_of_getElem? (i := 106) (by decide +kernel)) rfl, gtb_in (List.mem_of_getElem? (i := 760) (by decide +kernel)) rfl, by decide +kernel⟩, gtb_in (List.mem_of_getElem? (i := 758) (by decide +kernel)) rfl, gtb_in (List.mem_of_getElem? (i := 759) (by decide +kernel)) rfl⟩
theorem ck_X11_feed : CkV yX11_feed cX11_feed 6 (some .int) 5 := ⟨⟨gtb_in (List.mem_of_getElem? (i := 106) (by decide +kernel)) rfl, gtb_in (List.mem_of_getElem? (i := 494) (by decide +kernel)) rfl, by decide +kernel⟩, gtb_in (List.mem_of_getElem? (i := 492) (by decide +kernel)) rfl, gtb_in (List.mem_of_getElem? (i := 493) (by decide +kernel)) rfl⟩
theorem ck_X11_fib : CkV yX11_fib cX11_fib 5 (some .int) 3 := ⟨⟨gtb_in (List.mem_of_getElem? (i := 106) (by decide +kernel)) rfl, gtb_in (List.mem_of_getElem? (i := 1154) (by decide +kernel)) rfl, by decide +kernel⟩, gtb_in (List.mem_of_getElem? (i := 1152) (by decide +kernel)) rfl, gtb_in (List.mem_of_getElem? (i := 1153) (by decide +kernel)) rfl⟩
theorem ck_X11_good : CkV yX11_good cX11_good 3 (some .int) 2 := ⟨⟨gtb_in (List.mem_of_getElem? (i := 106) (by decide +kernel)) rfl, gtb_in (List.mem_of_getElem? (i := 819) (by decide +kernel)) rfl, by decide +kernel⟩, gtb_in (List.mem_of_getElem? (i := 817) (by decide +kernel)) rfl, gtb_in (List.mem_of_getElem? (i := 818) (by decide +kernel)) rfl⟩
theorem ck_X11_goodIn : CkV yX11_goodIn cX11_goodIn 5 (some .int) 3 := ⟨⟨gtb_in (List.mem_of_getElem? (i := 106) (by decide +kernel)) rfl, gtb_in (List.mem_of_getElem? (i := 1119) (by decide +kernel)) rfl, by decide +kernel⟩, gtb_in (List.mem_of_getElem? (i := 1117) (by decide +kernel)) rfl, gtb_in (List.mem_of_getElem? (i := 1118) (by decide +kernel)) rfl⟩
theorem ck_X11_holds : CkV yX11_holds cX11_holds 3 (some .int) 2 := ⟨⟨gtb_in (List.mem_of_getElem? (i := 106) (by decide +kernel)) rfl, gtb_in (List.mem_of_getElem? (i := 1107) (by decide +kernel)) rfl, by decide +kernel⟩, gtb_in (List.mem_of_getElem? (i := 1105) (by decide +kernel)) rfl, gtb_in (List.mem_of_getElem? (i := 1106) (by decide +kernel)) rfl⟩
theorem ck_X11_houses : CkV yX11_houses cX11_houses 6 (some .int) 2 := ⟨⟨gtb_in (List.mem_of_getElem? (i := 106) (by decide +kernel)) rfl, gtb_in (List.mem_of_getElem? (i := 1202) (by decide +kernel)) rfl, by decide +kernel⟩, gtb_in (List.mem_of_getElem? (i := 1200) (by decide +kernel)) rfl, gtb_in (List.mem_of_getElem? (i := 1201) (by decide +kernel)) rfl⟩
theorem ck_X11_image : CkV yX11_image cX11_image 2 (some .int) 1 := ⟨⟨gtb_in (List.mem_of_getElem? (i := 106) (by decide +kernel)) rfl, gtb_in (List.mem_of_getElem? (i := 1254) (by decide +kernel)) rfl, by decide +kernel⟩, gtb_in (List.mem_of_getElem? (i := 1252) (by decide +kernel)) rfl, gtb_in (List.mem_of_getElem? (i := 1253) (by decide +kernel)) rfl⟩
theorem ck_X11_judge : CkV yX11_judge cX11_judge 4 (some .int) 2 := ⟨⟨gtb_in (List.mem_of_getElem? (i := 106) (by decide +kernel)) rfl, gtb_in (List.mem_of_getElem? (i := 949) (by decide +kernel)) rfl, by decide +kernel⟩, gtb_in (List.mem_of_getElem? (i := 947) (by decide +kernel)) rfl, gtb_in (List.mem_of_getElem? (i := 948) (by decide +kernel)) rfl⟩
theorem ck_X11_lasting : CkV yX11_lasting cX11_lasting 5 (some .int) 2 := ⟨⟨gtb_in (List.mem_of_getElem? (i := 106) (by decide +kernel)) rfl, gtb_in (List.mem_of_getElem? (i := 1123) (by decide +kernel)) rfl, by decide +kernel⟩, gtb_in (List.mem_of_getElem? (i := 1121) (by decide +kernel)) rfl, gtb_in (List.mem_of_getElem? (i := 1122) (by decide +kernel)) rfl⟩
theorem ck_X11_later : CkV yX11_later cX11_later 4 (some .int) 2 := ⟨⟨gtb_in (List.mem_of_getElem? (i := 106) (by decide +kernel)) rfl, gtb_in (List.mem_of_getElem? (i := 1132) (by decide +kernel)) rfl, by decide +kernel⟩, gtb_in (List.mem_of_getElem? (i := 1130) (by decide +kernel)) rfl, gtb_in (List.mem_of_getElem? (i := 1131) (by decide +kernel)) rfl⟩
theorem ck_X11_leftFor : CkV yX11_leftFor cX11_leftFor 10 (some .int) 3 := ⟨⟨gtb_in (List.mem_of_getElem? (i := 106) (by decide +kernel)) rfl, gtb_in (List.mem_of_getElem? (i := 1145) (by decide +kernel)) rfl, by decide +kernel⟩, gtb_in (List.mem_of_getElem? (i := 1143) (by decide +kernel)) rfl, gtb_in (List.mem_of_getElem? (i := 1144) (by decide +kernel)) rfl⟩
theorem ck_X11_lists : CkV yX11_lists cX11_lists 5 (some .int) 1 := ⟨⟨gtb_in (List.mem_of_getElem? (i := 106) (by decide +kernel)) rfl, gtb_in (List.mem_of_getElem? (i := 1249) (by decide +kernel)) rfl, by decide +kernel⟩, gtb_in (List.mem_of_getElem? (i := 1247) (by decide +kernel)) rfl, gtb_in (List.mem_of_getElem? (i := 1248) (by decide +kernel)) rfl⟩
theorem ck_X11_matchAll : CkV yX11_matchAll cX11_matchAll 2 (some .int) 0 := ⟨⟨gtb_in (List.mem_of_getElem? (i := 106) (by decide +kernel)) rfl, gtb_in (List.mem_of_getElem? (i := 1099) (by decide +kernel)) rfl, by decide +kernel⟩, gtb_in (List.mem_of_getElem? (i := 1097) (by decide +kernel)) rfl, gtb_in (List.mem_of_getElem? (i := 1098) (by decide +kernel)) rfl⟩
theorem ck_X11_matchings : CkV yX11_matchings cX11_matchings 2 (some .int) 1 := ⟨⟨gtb_in (List.mem_of_getElem? (i := 106) (by decide +kernel)) rfl, gtb_in (List.mem_of_getElem? (i := 1015) (by decide +kernel)) rfl, by decide +kernel⟩, gtb_in (List.mem_of_getElem? (i := 1013) (by decide +kernel)) rfl, gtb_in (List.mem_of_getElem? (i := 1014) (by decide +kernel)) rfl⟩
theorem ck_X11_may : CkV yX11_may cX11_may 3 (some .int) 2 := ⟨⟨gtb_in (List.mem_of_getElem? (i := 106) (by decide +kernel)) rfl, gtb_in (List.mem_of_getElem? (i := 847) (by decide +kernel)) rfl, by decide +kernel⟩, gtb_in (List.mem_of_getElem? (i := 845) (by decide +kernel)) rfl, gtb_in (List.mem_of_getElem? (i := 846) (by decide +kernel)) rfl⟩
theorem ck_X11_most : CkV yX11_most cX11_most 2 (some .int) 1 := ⟨⟨gtb_in (List.mem_of_getElem? (i := 106) (by decide +kernel)) rfl, gtb_in (List.mem_of_getElem? (i := 1039) (by decide +kernel)) rfl, by decide +kernel⟩, gtb_in (List.mem_of_getElem? (i := 1037) (by decide +kernel)) rfl, gtb_in (List.mem_of_getElem? (i := 1038) (by decide +kernel)) rfl⟩
theorem ck_X11_numbers : CkV yX11_numbers cX11_numbers 4 (some .int) 3 := ⟨⟨gtb_in (List.mem_of_getElem? (i := 106) (by decide +kernel)) rfl, gtb_in (List.mem_of_getElem? (i := 1230) (by decide +kernel)) rfl, by decide +kernel⟩, gtb_in (List.mem_of_getElem? (i := 1228) (by decide +kernel)) rfl, gtb_in (List.mem_of_getElem? (i := 1229) (by decide +kernel)) rfl⟩
theorem ck_X11_pair : CkV yX11_pair cX11_pair 4 (some .int) 3 := ⟨⟨gtb_in (List.mem_of_getElem? (i := 106) (by decide +kernel)) rfl, gtb_in (List.mem_of_getElem? (i := 802) (by decide +kernel)) rfl, by decide +kernel⟩, gtb_in (List.mem_of_getElem? (i := 800) (by decide +kernel)) rfl, gtb_in (List.mem_of_getElem? (i := 801) (by decide +kernel)) rfl⟩
theorem ck_X11_part : CkV yX11_part cX11_part 2 (some .int) 1 := ⟨⟨gtb_in (List.mem_of_getElem? (i := 106) (by decide +kernel)) rfl, gtb_in (List.mem_of_getElem? (i := 874) (by decide +kernel)) rfl, by decide +kernel⟩, gtb_in (List.mem_of_getElem? (i := 872) (by decide +kernel)) rfl, gtb_in (List.mem_of_getElem? (i := 873) (by decide +kernel)) rfl⟩
theorem ck_X11_peace : CkV yX11_peace cX11_peace 3 (some .int) 0 := ⟨⟨gtb_in (List.mem_of_getElem? (i := 106) (by decide +kernel)) rfl, gtb_in (List.mem_of_getElem? (i := 1218) (by decide +kernel)) rfl, by decide +kernel⟩, gtb_in (List.mem_of_getElem? (i := 1216) (by decide +kernel)) rfl, gtb_in (List.mem_of_getElem? (i := 1217) (by decide +kernel)) rfl⟩
theorem ck_X11_perform : CkV yX11_perform cX11_perform 3 (some .int) 1 := ⟨⟨gtb_in (List.mem_of_getElem? (i := 106) (by decide +kernel)) rfl, gtb_in (List.mem_of_getElem? (i := 994) (by decide +kernel)) rfl, by decide +kernel⟩, gtb_in (List.mem_of_getElem? (i := 992) (by decide +kernel)) rfl, gtb_in (List.mem_of_getElem? (i := 993) (by decide +kernel)) rfl⟩
theorem ck_X11_person : CkV yX11_person cX11_person 3 (some .int) 2 := ⟨⟨gtb_in (List.mem_of_getElem? (i := 106) (by decide +kernel)) rfl, gtb_in (List.mem_of_getElem? (i := 764) (by decide +kernel)) rfl, by decide +kernel⟩, gtb_in (List.mem_of_getElem? (i := 762) (by decide +kernel)) rfl, gtb_in (List.mem_of_getElem? (i := 763) (by decide +kernel)) rfl⟩
theorem ck_X11_pieced : CkV yX11_pieced cX11_pieced 8 (some .int) 2 := ⟨⟨gtb_in (List.mem_of_getElem? (i := 106) (by decide +kernel)) rfl, gtb_in (List.mem_of_getElem? (i := 1190) (by decide +kernel)) rfl, by decide +kernel⟩, gtb_in (List.mem_of_getElem? (i := 1188) (by decide +kernel)) rfl, gtb_in (List.mem_of_getElem? (i := 1189) (by decide +kernel)) rfl⟩
theorem ck_X11_restore : CkV yX11_restore cX11_restore 2 (some .int) 1 := ⟨⟨gtb_in (List.mem_of_getElem? (i := 106) (by decide +kernel)) rfl, gtb_in (List.mem_of_getElem? (i := 1279) (by decide +kernel)) rfl, by decide +kernel⟩, gtb_in (List.mem_of_getElem? (i := 1277) (by decide +kernel)) rfl, gtb_in (List.mem_of_getElem? (i := 1278) (by decide +kernel)) rfl⟩
theorem ck_X11_season : CkV yX11_season cX11_season 5 (some .int) 2 := ⟨⟨gtb_in (List.mem_of_getElem? (i := 106) (by decide +kernel)) rfl, gtb_in (List.mem_of_getElem? (i := 1002) (by decide +kernel)) rfl, by decide +kernel⟩, gtb_in (List.mem_of_getElem? (i := 1000) (by decide +kernel)) rfl, gtb_in (List.mem_of_getElem? (i := 1001) (by decide +kernel)) rfl⟩
theorem ck_X11_sharer : CkV yX11_sharer cX11_sharer 6 (some .int) 1 := ⟨⟨gtb_in (List.mem_of_getElem? (i := 106) (by decide +kernel)) rfl, gtb_in (List.mem_of_getElem? (i := 1186) (by decide +kernel)) rfl, by decide +kernel⟩, gtb_in (List.mem_of_getElem? (i := 1184) (by decide +kernel)) rfl, gtb_in (List.mem_of_getElem? (i := 1185) (by decide +kernel)) rfl⟩
theorem ck_X11_since : CkV yX11_since cX11_since 3 (some .int) 2 := ⟨⟨gtb_in (List.mem_of_getElem? (i := 106) (by decide +kernel)) rfl, gtb_in (List.mem_of_getElem? (i := 772) (by decide +kernel)) rfl, by decide +kernel⟩, gtb_in (List.mem_of_getElem? (i := 770) (by decide +kernel)) rfl, gtb_in (List.mem_of_getElem? (i := 771) (by decide +kernel)) rfl⟩
theorem ck_X11_stable : CkV yX11_stable cX11_stable 2 (some .int) 1 := ⟨⟨gtb_in (List.mem_of_getElem? (i := 106) (by decide +kernel)) rfl, gtb_in (List.mem_of_getElem? (i := 1076) (by decide +kernel)) rfl, by decide +kernel⟩, gtb_in (List.mem_of_getElem? (i := 1074) (by decide +kernel)) rfl, gtb_in (List.mem_of_getElem? (i := 1075) (by decide +kernel)) rfl⟩
theorem ck_X11_strikes : CkV yX11_strikes cX11_strikes 6 (some .int) 3 := ⟨⟨gtb_in (List.mem_of_getElem? (i := 106) (by decide +kernel)) rfl, gtb_in (List.mem_of_getElem? (i := 1181) (by decide +kernel)) rfl, by decide +kernel⟩, gtb_in (List.mem_of_getElem? (i := 1179) (by decide +kernel)) rfl, gtb_in (List.mem_of_getElem? (i := 1180) (by decide +kernel)) rfl⟩
theorem ck_X11_takes : CkV yX11_takes cX11_takes 4 (some .int) 2 := ⟨⟨gtb_in (List.mem_of_getElem? (i := 106) (by decide +kernel)) rfl, gtb_in (List.mem_of_getElem? (i := 882) (by decide +kernel)) rfl, by decide +kernel⟩, gtb_in (List.mem_of_getElem? (i := 880) (by decide +kernel)) rfl, gtb_in (List.mem_of_getElem? (i := 881) (by decide +kernel)) rfl⟩
theorem ck_X11_thing : CkV yX11_thing cX11_thing 3 (some .int) 2 := ⟨⟨gtb_in (List.mem_of_getElem? (i := 106) (by decide +kernel)) rfl, gtb_in (List.mem_of_getElem? (i := 784) (by decide +kernel)) rfl, by decide +kernel⟩, gtb_in (List.mem_of_getElem? (i := 782) (by decide +kernel)) rfl, gtb_in (List.mem_of_getElem? (i := 783) (by decide +kernel)) rfl⟩
theorem ck_X11_undo : CkV yX11_undo cX11_undo 2 (some .int) 1 := ⟨⟨gtb_in (List.mem_of_getElem? (i := 106) (by decide +kernel)) rfl, gtb_in (List.mem_of_getElem? (i := 941) (by decide +kernel)) rfl, by decide +kernel⟩, gtb_in (List.mem_of_getElem? (i := 939) (by decide +kernel)) rfl, gtb_in (List.mem_of_getElem? (i := 940) (by decide +kernel)) rfl⟩
theorem ck_X11_wed : CkV yX11_wed cX11_wed 4 (some .int) 2 := ⟨⟨gtb_in (List.mem_of_getElem? (i := 106) (by decide +kernel)) rfl, gtb_in (List.mem_of_getElem? (i := 855) (by decide +kernel)) rfl, by decide +kernel⟩, gtb_in (List.mem_of_getElem? (i := 853) (by decide +kernel)) rfl, gtb_in (List.mem_of_getElem? (i := 854) (by decide +kernel)) rfl⟩
theorem ck_X11_write : CkV yX11_write cX11_write 6 (some .long) 3 := ⟨⟨gtb_in (List.mem_of_getElem? (i := 106) (by decide +kernel)) rfl, gtb_in (List.mem_of_getElem? (i := 1238) (by decide +kernel)) rfl, by decide +kernel⟩, gtb_in (List.mem_of_getElem? (i := 1236) (by decide +kernel)) rfl, gtb_in (List.mem_of_getElem? (i := 1237) (by decide +kernel)) rfl⟩
theorem ck_X11_years : CkV yX11_years cX11_years 4 (some .int) 1 := ⟨⟨gtb_in (List.mem_of_getElem? (i := 106) (by decide +kernel)) rfl, gtb_in (List.mem_of_getElem? (i := 917) (by decide +kernel)) rfl, by decide +kernel⟩, gtb_in (List.mem_of_getElem? (i := 915) (by decide +kernel)) rfl, gtb_in (List.mem_of_getElem? (i := 916) (by decide +kernel)) rfl⟩
theorem ck_X12_angry : CkV yX12_angry cX12_angry 3 (some .int) 0 := ⟨⟨gtb_in (List.mem_of_getElem? (i := 117) (by decide +kernel)) rfl, gtb_in (List.mem_of_getElem? (i := 1830) (by decide +kernel)) rfl, by decide +kernel⟩, gtb_in (List.mem_of_getElem? (i := 1828) (by decide +kernel)) rfl, gtb_in (List.mem_of_getElem? (i := 1829) (by decide +kernel)) rfl⟩
theorem ck_X12_biggest : CkV yX12_biggest cX12_biggest 5 (some .int) 2 := ⟨⟨gtb_in (List.mem_of_getElem? (i := 117) (by decide +kernel)) rfl, gtb_in (List.mem_of_getElem? (i := 1818) (by decide +kernel)) rfl, by decide +kernel⟩, gtb_in (List.mem_of_getElem? (i := 1816) (by decide +kernel)) rfl, gtb_in (List.mem_of_getElem? (i := 1817) (by decide +kernel)) rfl⟩
theorem ck_X12_breaks : CkV yX12_breaks cX12_breaks 2 (some .int) 0 := ⟨⟨gtb_in (List.mem_of_getElem? (i := 117) (by decide +kernel)) rfl, gtb_in (List.mem_of_getElem? (i := 1753) (by decide +kernel)) rfl, by decide +kernel⟩, gtb_in (List.mem_of_getElem? (i := 1751) (by decide +kernel)) rfl, gtb_in (List.mem_of_getElem? (i := 1752) (by decide +kernel)) rfl⟩
theorem ck_X12_bureau : CkV yX12_bureau cX12_bureau 3 (some .int) 1 := ⟨⟨gtb_in (List.mem_of_getElem? (i := 117) (by decide +kernel)) rfl, gtb_in (List.mem_of_getElem? (i := 1404) (by decide +kernel)) rfl, by decide +kernel⟩, gtb_in (List.mem_of_getElem? (i := 1402) (by decide +kernel)) rfl, gtb_in (List.mem_of_getElem? (i := 1403) (by decide +kernel)) rfl⟩
theorem ck_X12_byWhen : CkV yX12_byWhen cX12_byWhen 5 (some .int) 2 := ⟨⟨gtb_in (List.mem_of_getElem? (i := 117) (by decide +kernel)) rfl, gtb_in (List.mem_of_getElem? (i := 1781) (by decide +kernel)) rfl, by decide +kernel⟩, gtb_in (List.mem_of_getElem? (i := 1779) (by decide +kernel)) rfl, gtb_in (List.mem_of_getElem? (i := 1780) (by decide +kernel)) rfl⟩
theorem ck_X12_child : CkV yX12_child cX12_child 6 (some .int) 2 := ⟨⟨gtb_in (List.mem_of_getElem? (i := 117) (by decide +kernel)) rfl, gtb_in (List.mem_of_getElem? (i := 1805) (by decide +kernel)) rfl, by decide +kernel⟩, gtb_in (List.mem_of_getElem? (i := 1803) (by decide +kernel)) rfl, gtb_in (List.mem_of_getElem? (i := 1804) (by decide +kernel)) rfl⟩
theorem ck_X12_copies : CkV yX12_copies cX12_copies 3 (some .int) 2 := ⟨⟨gtb_in (List.mem_of_getElem? (i := 117) (by decide +kernel)) rfl, gtb_in (List.mem_of_getElem? (i := 1642) (by decide +kernel)) rfl, by decide +kernel⟩, gtb_in (List.mem_of_getElem? (i := 1640) (by decide +kernel)) rfl, gtb_in (List.mem_of_getElem? (i := 1641) (by decide +kernel)) rfl⟩
theorem ck_X12_count : CkV yX12_count cX12_count 2 (some .int) 1 := ⟨⟨gtb_in (List.mem_of_getElem? (i := 117) (by decide +kernel)) rfl, gtb_in (List.mem_of_getElem? (i := 1858) (by decide +kernel)) rfl, by decide +kernel⟩, gtb_in (List.mem_of_getElem? (i := 1856) (by decide +kernel)) rfl, gtb_in (List.mem_of_getElem? (i := 1857) (by decide +kernel)) rfl⟩
theorem ck_X12_dearest : CkV yX12_dearest cX12_dearest 4 (some .int) 1 := ⟨⟨gtb_in (List.mem_of_getElem? (i := 117) (by decide +kernel)) rfl, gtb_in (List.mem_of_getElem? (i := 1761) (by decide +kernel)) rfl, by decide +kernel⟩, gtb_in (List.mem_of_getElem? (i := 1759) (by decide +kernel)) rfl, gtb_in (List.mem_of_getElem? (i := 1760) (by decide +kernel)) rfl⟩
theorem ck_X12_fault : CkV yX12_fault cX12_fault 2 (some .int) 1 := ⟨⟨gtb_in (List.mem_of_getElem? (i := 117) (by decide +kernel)) rfl, gtb_in (List.mem_of_getElem? (i := 1506) (by decide +kernel)) rfl, by decide +kernel⟩, gtb_in (List.mem_of_getElem? (i := 1504) (by decide +kernel)) rfl, gtb_in (List.mem_of_getElem? (i := 1505) (by decide +kernel)) rfl⟩
theorem ck_X12_feed : CkV yX12_feed cX12_feed 8 (some .int) 5 := ⟨⟨gtb_in (List.mem_of_getElem? (i := 117) (by decide +kernel)) rfl, gtb_in (List.mem_of_getElem? (i := 1400) (by decide +kernel)) rfl, by decide +kernel⟩, gtb_in (List.mem_of_getElem? (i := 1398) (by decide +kernel)) rfl, gtb_in (List.mem_of_getElem? (i := 1399) (by decide +kernel)) rfl⟩
theorem ck_X12_fib : CkV yX12_fib cX12_fib 8 (some .int) 3 := ⟨⟨gtb_in (List.mem_of_getElem? (i := 117) (by decide +kernel)) rfl, gtb_in (List.mem_of_getElem? (i := 1789) (by decide +kernel)) rfl, by decide +kernel⟩, gtb_in (List.mem_of_getElem? (i := 1787) (by decide +kernel)) rfl, gtb_in (List.mem_of_getElem? (i := 1788) (by decide +kernel)) rfl⟩
theorem ck_X12_good : CkV yX12_good cX12_good 3 (some .int) 2 := ⟨⟨gtb_in (List.mem_of_getElem? (i := 117) (by decide +kernel)) rfl, gtb_in (List.mem_of_getElem? (i := 1566) (by decide +kernel)) rfl, by decide +kernel⟩, gtb_in (List.mem_of_getElem? (i := 1564) (by decide +kernel)) rfl, gtb_in (List.mem_of_getElem? (i := 1565) (by decide +kernel)) rfl⟩
theorem ck_X12_goodIn : CkV yX12_goodIn cX12_goodIn 5 (some .int) 3 := ⟨⟨gtb_in (List.mem_of_getElem? (i := 117) (by decide +kernel)) rfl, gtb_in (List.mem_of_getElem? (i := 1769) (by decide +kernel)) rfl, by decide +kernel⟩, gtb_in (List.mem_of_getElem? (i := 1767) (by decide +kernel)) rfl, gtb_in (List.mem_of_getElem? (i := 1768) (by decide +kernel)) rfl⟩
theorem ck_X12_holds : CkV yX12_holds cX12_holds 3 (some .int) 2 := ⟨⟨gtb_in (List.mem_of_getElem? (i := 117) (by decide +kernel)) rfl, gtb_in (List.mem_of_getElem? (i := 1765) (by decide +kernel)) rfl, by decide +kernel⟩, gtb_in (List.mem_of_getElem? (i := 1763) (by decide +kernel)) rfl, gtb_in (List.mem_of_getElem? (i := 1764) (by decide +kernel)) rfl⟩
theorem ck_X12_houses : CkV yX12_houses cX12_houses 5 (some .int) 2 := ⟨⟨gtb_in (List.mem_of_getElem? (i := 117) (by decide +kernel)) rfl, gtb_in (List.mem_of_getElem? (i := 1809) (by decide +kernel)) rfl, by decide +kernel⟩, gtb_in (List.mem_of_getElem? (i := 1807) (by decide +kernel)) rfl, gtb_in (List.mem_of_getElem? (i := 1808) (by decide +kernel)) rfl⟩
theorem ck_X12_image : CkV yX12_image cX12_image 3 (some .int) 1 := ⟨⟨gtb_in (List.mem_of_getElem? (i := 117) (by decide +kernel)) rfl, gtb_in (List.mem_of_getElem? (i := 1850) (by decide +kernel)) rfl, by decide +kernel⟩, gtb_in (List.mem_of_getElem? (i := 1848) (by decide +kernel)) rfl, gtb_in (List.mem_of_getElem? (i := 1849) (by decide +kernel)) rfl⟩
theorem ck_X12_judge : CkV yX12_judge cX12_judge 7 (some .int) 2 := ⟨⟨gtb_in (List.mem_of_getElem? (i := 117) (by decide +kernel)) rfl, gtb_in (List.mem_of_getElem? (i := 1656) (by decide +kernel)) rfl, by decide +kernel⟩, gtb_in (List.mem_of_getElem? (i := 1654) (by decide +kernel)) rfl, gtb_in (List.mem_of_getElem? (i := 1655) (by decide +kernel)) rfl⟩
theorem ck_X12_lasting : CkV yX12_lasting cX12_lasting 3 (some .int) 2 := ⟨⟨gtb_in (List.mem_of_getElem? (i := 117) (by decide +kernel)) rfl, gtb_in (List.mem_of_getElem? (i := 1773) (by decide +kernel)) rfl, by decide +kernel⟩, gtb_in (List.mem_of_getElem? (i := 1771) (by decide +kernel)) rfl, gtb_in (List.mem_of_getElem? (i := 1772) (by decide +kernel)) rfl⟩
theorem ck_X12_later : CkV yX12_later cX12_later 4 (some .int) 2 := ⟨⟨gtb_in (List.mem_of_getElem? (i := 117) (by decide +kernel)) rfl, gtb_in (List.mem_of_getElem? (i := 1777) (by decide +kernel)) rfl, by decide +kernel⟩, gtb_in (List.mem_of_getElem? (i := 1775) (by decide +kernel)) rfl, gtb_in (List.mem_of_getElem? (i := 1776) (by decide +kernel)) rfl⟩
theorem ck_X12_leftFor : CkV yX12_leftFor cX12_leftFor 6 (some .int) 3 := ⟨⟨gtb_in (List.mem_of_getElem? (i := 117) (by decide +kernel)) rfl, gtb_in (List.mem_of_getElem? (i := 1785) (by decide +kernel)) rfl, by decide +kernel⟩, gtb_in (List.mem_of_getElem? (i := 1783) (by decide +kernel)) rfl, gtb_in (List.mem_of_getElem? (i := 1784) (by decide +kernel)) rfl⟩
theorem ck_X12_lists : CkV yX12_lists cX12_lists 5 (some .int) 1 := ⟨⟨gtb_in (List.mem_of_getElem? (i := 117) (by decide +kernel)) rfl, gtb_in (List.mem_of_getElem? (i := 1846) (by decide +kernel)) rfl, by decide +kernel⟩, gtb_in (List.mem_of_getElem? (i := 1844) (by decide +kernel)) rfl, gtb_in (List.mem_of_getElem? (i := 1845) (by decide +kernel)) rfl⟩
theorem ck_X12_matchAll : CkV yX12_matchAll cX12_matchAll 2 (some .int) 0 := ⟨⟨gtb_in (List.mem_of_getElem? (i := 117) (by decide +kernel)) rfl, gtb_in (List.mem_of_getElem? (i := 1757) (by decide +kernel)) rfl, by decide +kernel⟩, gtb_in (List.mem_of_getElem? (i := 1755) (by decide +kernel)) rfl, gtb_in (List.mem_of_getElem? (i := 1756) (by decide +kernel)) rfl⟩
theorem ck_X12_matchings : CkV yX12_matchings cX12_matchings 2 (some .int) 1 := ⟨⟨gtb_in (List.mem_of_getElem? (i := 117) (by decide +kernel)) rfl, gtb_in (List.mem_of_getElem? (i := 1699) (by decide +kernel)) rfl, by decide +kernel⟩, gtb_in (List.mem_of_getElem? (i := 1697) (by decide +kernel)) rfl, gtb_in (List.mem_of_getElem? (i := 1698) (by decide +kernel)) rfl⟩
theorem ck_X12_may : CkV yX12_may cX12_may 3 (some .int) 2 := ⟨⟨gtb_in (List.mem_of_getElem? (i := 117) (by decide +kernel)) rfl, gtb_in (List.mem_of_getElem? (i := 1584) (by decide +kernel)) rfl, by decide +kernel⟩, gtb_in (List.mem_of_getElem? (i := 1582) (by decide +kernel)) rfl, gtb_in (List.mem_of_getElem? (i := 1583) (by decide +kernel)) rfl⟩
theorem ck_X12_most : CkV yX12_most cX12_most 2 (some .int) 1 := ⟨⟨gtb_in (List.mem_of_getElem? (i := 117) (by decide +kernel)) rfl, gtb_in (List.mem_of_getElem? (i := 1736) (by decide +kernel)) rfl, by decide +kernel⟩, gtb_in (List.mem_of_getElem? (i := 1734) (by decide +kernel)) rfl, gtb_in (List.mem_of_getElem? (i := 1735) (by decide +kernel)) rfl⟩
theorem ck_X12_numbers : CkV yX12_numbers cX12_numbers 5 (some .int) 3 := ⟨⟨gtb_in (List.mem_of_getElem? (i := 117) (by decide +kernel)) rfl, gtb_in (List.mem_of_getElem? (i := 1834) (by decide +kernel)) rfl, by decide +kernel⟩, gtb_in (List.mem_of_getElem? (i := 1832) (by decide +kernel)) rfl, gtb_in (List.mem_of_getElem? (i := 1833) (by decide +kernel)) rfl⟩
theorem ck_X12_pair : CkV yX12_pair cX12_pair 4 (some .int) 3 := ⟨⟨gtb_in (List.mem_of_getElem? (i := 117) (by decide +kernel)) rfl, gtb_in (List.mem_of_getElem? (i := 1549) (by decide +kernel)) rfl, by decide +kernel⟩, gtb_in (List.mem_of_getElem? (i := 1547) (by decide +kernel)) rfl, gtb_in (List.mem_of_getElem? (i := 1548) (by decide +kernel)) rfl⟩
theorem ck_X12_part : CkV yX12_part cX12_part 2 (some .int) 1 := ⟨⟨gtb_in (List.mem_of_getElem? (i := 117) (by decide +kernel)) rfl, gtb_in (List.mem_of_getElem? (i := 1608) (by decide +kernel)) rfl, by decide +kernel⟩, gtb_in (List.mem_of_getElem? (i := 1606) (by decide +kernel)) rfl, gtb_in (List.mem_of_getElem? (i := 1607) (by decide +kernel)) rfl⟩
theorem ck_X12_peace : CkV yX12_peace cX12_peace 3 (some .int) 0 := ⟨⟨gtb_in (List.mem_of_getElem? (i := 117) (by decide +kernel)) rfl, gtb_in (List.mem_of_getElem? (i := 1822) (by decide +kernel)) rfl, by decide +kernel⟩, gtb_in (List.mem_of_getElem? (i := 1820) (by decide +kernel)) rfl, gtb_in (List.mem_of_getElem? (i := 1821) (by decide +kernel)) rfl⟩
theorem ck_X12_perform : CkV yX12_perform cX12_perform 4 (some .int) 1 := ⟨⟨gtb_in (List.mem_of_getElem? (i := 117) (by decide +kernel)) rfl, gtb_in (List.mem_of_getElem? (i := 1681) (by decide +kernel)) rfl, by decide +kernel⟩, gtb_in (List.mem_of_getElem? (i := 1679) (by decide +kernel)) rfl, gtb_in (List.mem_of_getElem? (i := 1680) (by decide +kernel)) rfl⟩
theorem ck_X12_person : CkV yX12_person cX12_person 3 (some .int) 2 := ⟨⟨gtb_in (List.mem_of_getElem? (i := 117) (by decide +kernel)) rfl, gtb_in (List.mem_of_getElem? (i := 1510) (by decide +kernel)) rfl, by decide +kernel⟩, gtb_in (List.mem_of_getElem? (i := 1508) (by decide +kernel)) rfl, gtb_in (List.mem_of_getElem? (i := 1509) (by decide +kernel)) rfl⟩
theorem ck_X12_pieced : CkV yX12_pieced cX12_pieced 7 (some .int) 2 := ⟨⟨gtb_in (List.mem_of_getElem? (i := 117) (by decide +kernel)) rfl, gtb_in (List.mem_of_getElem? (i := 1801) (by decide +kernel)) rfl, by decide +kernel⟩, gtb_in (List.mem_of_getElem? (i := 1799) (by decide +kernel)) rfl, gtb_in (List.mem_of_getElem? (i := 1800) (by decide +kernel)) rfl⟩
theorem ck_X12_restore : CkV yX12_restore cX12_restore 3 (some .int) 1 := ⟨⟨gtb_in (List.mem_of_getElem? (i := 117) (by decide +kernel)) rfl, gtb_in (List.mem_of_getElem? (i := 1854) (by decide +kernel)) rfl, by decide +kernel⟩, gtb_in (List.mem_of_getElem? (i := 1852) (by decide +kernel)) rfl, gtb_in (List.mem_of_getElem? (i := 1853) (by decide +kernel)) rfl⟩
theorem ck_X12_season : CkV yX12_season cX12_season 6 (some .int) 2 := ⟨⟨gtb_in (List.mem_of_getElem? (i := 117) (by decide +kernel)) rfl, gtb_in (List.mem_of_getElem? (i := 1685) (by decide +kernel)) rfl, by decide +kernel⟩, gtb_in (List.mem_of_getElem? (i := 1683) (by decide +kernel)) rfl, gtb_in (List.mem_of_getElem? (i := 1684) (by decide +kernel)) rfl⟩
theorem ck_X12_sharer : CkV yX12_sharer cX12_sharer 6 (some .int) 1 := ⟨⟨gtb_in (List.mem_of_getElem? (i := 117) (by decide +kernel)) rfl, gtb_in (List.mem_of_getElem? (i := 1797) (by decide +kernel)) rfl, by decide +kernel⟩, gtb_in (List.mem_of_getElem? (i := 1795) (by decide +kernel)) rfl, gtb_in (List.mem_of_getElem? (i := 1796) (by decide +kernel)) rfl⟩
theorem ck_X12_since : CkV yX12_since cX12_since 3 (some .int) 2 := ⟨⟨gtb_in (List.mem_of_getElem? (i := 117) (by decide +kernel)) rfl, gtb_in (List.mem_of_getElem? (i := 1522) (by decide +kernel)) rfl, by decide +kernel⟩, gtb_in (List.mem_of_getElem? (i := 1520) (by decide +kernel)) rfl, gtb_in (List.mem_of_getElem? (i := 1521) (by decide +kernel)) rfl⟩
theorem ck_X12_stable : CkV yX12_stable cX12_stable 2 (some .int) 1 := ⟨⟨gtb_in (List.mem_of_getElem? (i := 117) (by decide +kernel)) rfl, gtb_in (List.mem_of_getElem? (i := 1749) (by decide +kernel)) rfl, by decide +kernel⟩, gtb_in (List.mem_of_getElem? (i := 1747) (by decide +kernel)) rfl, gtb_in (List.mem_of_getElem? (i := 1748) (by decide +kernel)) rfl⟩
theorem ck_X12_strikes : CkV yX12_strikes cX12_strikes 6 (some .int) 3 := ⟨⟨gtb_in (List.mem_of_getElem? (i := 117) (by decide +kernel)) rfl, gtb_in (List.mem_of_getElem? (i := 1793) (by decide +kernel)) rfl, by decide +kernel⟩, gtb_in (List.mem_of_getElem? (i := 1791) (by decide +kernel)) rfl, gtb_in (List.mem_of_getElem? (i := 1792) (by decide +kernel)) rfl⟩
theorem ck_X12_takes : CkV yX12_takes cX12_takes 4 (some .int) 2 := ⟨⟨gtb_in (List.mem_of_getElem? (i := 117) (by decide +kernel)) rfl, gtb_in (List.mem_of_getElem? (i := 1616) (by decide +kernel)) rfl, by decide +kernel⟩, gtb_in (List.mem_of_getElem? (i := 1614) (by decide +kernel)) rfl, gtb_in (List.mem_of_getElem? (i := 1615) (by decide +kernel)) rfl⟩
theorem ck_X12_thing : CkV yX12_thing cX12_thing 3 (some .int) 2 := ⟨⟨gtb_in (List.mem_of_getElem? (i := 117) (by decide +kernel)) rfl, gtb_in (List.mem_of_getElem? (i := 1530) (by decide +kernel)) rfl, by decide +kernel⟩, gtb_in (List.mem_of_getElem? (i := 1528) (by decide +kernel)) rfl, gtb_in (List.mem_of_getElem? (i := 1529) (by decide +kernel)) rfl⟩
theorem ck_X12_undo : CkV yX12_undo cX12_undo 3 (some .int) 1 := ⟨⟨gtb_in (List.mem_of_getElem? (i := 117) (by decide +kernel)) rfl, gtb_in (List.mem_of_getElem? (i := 1651) (by decide +kernel)) rfl, by decide +kernel⟩, gtb_in (List.mem_of_getElem? (i := 1649) (by decide +kernel)) rfl, gtb_in (List.mem_of_getElem? (i := 1650) (by decide +kernel)) rfl⟩
theorem ck_X12_wed : CkV yX12_wed cX12_wed 3 (some .int) 2 := ⟨⟨gtb_in (List.mem_of_getElem? (i := 117) (by decide +kernel)) rfl, gtb_in (List.mem_of_getElem? (i := 1592) (by decide +kernel)) rfl, by decide +kernel⟩, gtb_in (List.mem_of_getElem? (i := 1590) (by decide +kernel)) rfl, gtb_in (List.mem_of_getElem? (i := 1591) (by decide +kernel)) rfl⟩
theorem ck_X12_write : CkV yX12_write cX12_write 6 (some .long) 3 := ⟨⟨gtb_in (List.mem_of_getElem? (i := 117) (by decide +kernel)) rfl, gtb_in (List.mem_of_getElem? (i := 1838) (by decide +kernel)) rfl, by decide +kernel⟩, gtb_in (List.mem_of_getElem? (i := 1836) (by decide +kernel)) rfl, gtb_in (List.mem_of_getElem? (i := 1837) (by decide +kernel)) rfl⟩
theorem ck_X12_years : CkV yX12_years cX12_years 4 (some .int) 1 := ⟨⟨gtb_in (List.mem_of_getElem? (i := 117) (by decide +kernel)) rfl, gtb_in (List.mem_of_getElem? (i := 1646) (by decide +kernel)) rfl, by decide +kernel⟩, gtb_in (List.mem_of_getElem? (i := 1644) (by decide +kernel)) rfl, gtb_in (List.mem_of_getElem? (i := 1645) (by decide +kernel)) rfl⟩
theorem dL_law_0 : decode code 0 = .ok (.new 7, 3) := by decide +kernel
theorem dL_law_3 : decode code 3 = .ok (.dup, 1) := by decide +kernel
theorem dL_law_4 : decode code 4 = .ok (.invokespecial 9, 3) := by decide +kernel
theorem dL_law_7 : decode code 7 = .ok (.astore_n 1, 1) := by decide +kernel
theorem dL_law_8 : decode code 8 = .ok (.new 10, 3) := by decide +kernel
theorem dL_law_11 : decode code 11 = .ok (.dup, 1) := by decide +kernel
theorem dL_law_12 : decode code 12 = .ok (.invokespecial 12, 3) := by decide +kernel
theorem dL_law_15 : decode code 15 = .ok (.astore_n 2, 1) := by decide +kernel
theorem dL_law_16 : decode code 16 = .ok (.iconst 0, 1) := by decide +kernel
theorem dL_law_17 : decode code 17 = .ok (.istore_n 3, 1) := by decide +kernel
theorem dL_law_18 : decode code 18 = .ok (.iload_n 3, 1) := by decide +kernel
theorem dL_law_19 : decode code 19 = .ok (.aload_n 0, 1) := by decide +kernel
theorem dL_law_20 : decode code 20 = .ok (.arraylength, 1) := by decide +kernel
theorem dL_law_21 : decode code 21 = .ok (.bipush 6, 2) := by decide +kernel
theorem dL_law_23 : decode code 23 = .ok (.isub, 1) := by decide +kernel
theorem dL_law_24 : decode code 24 = .ok (.if_icmp .gt 1596, 3) := by decide +kernel
theorem dL_law_27 : decode code 27 = .ok (.aload_n 0, 1) := by decide +kernel
theorem dL_law_28 : decode code 28 = .ok (.iload_n 3, 1) := by decide +kernel
theorem dL_law_29 : decode code 29 = .ok (.iaload, 1) := by decide +kernel
theorem dL_law_30 : decode code 30 = .ok (.bipush 63, 2) := by decide +kernel
theorem dL_law_32 : decode code 32 = .ok (.iand, 1) := by decide +kernel
theorem dL_law_33 : decode code 33 = .ok (.tableswitch 1581 0 44 #[195, 258, 281, 304, 337, 370, 403, 446, 479, 512, 545, 568, 601, 634, 657, 680, 713, 736, 769, 792, 815, 838, 851, 864, 887, 920, 963, 996, 1029, 1062, 1105, 1148, 1191, 1214, 1247, 1280, 1313, 1346, 1359, 1372, 1415, 1489, 1512, 1535, 1558], 195) := by decide +kernel
theorem dL_law_228 : decode code 228 = .ok (.aload_n 1, 1) := by decide +kernel
theorem dL_law_229 : decode code 229 = .ok (.aload_n 0, 1) := by decide +kernel
theorem dL_law_230 : decode code 230 = .ok (.iload_n 3, 1) := by decide +kernel
theorem dL_law_231 : decode code 231 = .ok (.iconst 1, 1) := by decide +kernel
theorem dL_law_232 : decode code 232 = .ok (.iadd, 1) := by decide +kernel
theorem dL_law_233 : decode code 233 = .ok (.iaload, 1) := by decide +kernel
theorem dL_law_234 : decode code 234 = .ok (.aload_n 0, 1) := by decide +kernel
theorem dL_law_235 : decode code 235 = .ok (.iload_n 3, 1) := by decide +kernel
theorem dL_law_236 : decode code 236 = .ok (.iconst 2, 1) := by decide +kernel
theorem dL_law_237 : decode code 237 = .ok (.iadd, 1) := by decide +kernel
theorem dL_law_238 : decode code 238 = .ok (.iaload, 1) := by decide +kernel
theorem dL_law_239 : decode code 239 = .ok (.aload_n 0, 1) := by decide +kernel
theorem dL_law_240 : decode code 240 = .ok (.iload_n 3, 1) := by decide +kernel
theorem dL_law_241 : decode code 241 = .ok (.iconst 3, 1) := by decide +kernel
theorem dL_law_242 : decode code 242 = .ok (.iadd, 1) := by decide +kernel
theorem dL_law_243 : decode code 243 = .ok (.iaload, 1) := by decide +kernel
theorem dL_law_244 : decode code 244 = .ok (.aload_n 0, 1) := by decide +kernel
theorem dL_law_245 : decode code 245 = .ok (.iload_n 3, 1) := by decide +kernel
theorem dL_law_246 : decode code 246 = .ok (.iconst 4, 1) := by decide +kernel
theorem dL_law_247 : decode code 247 = .ok (.iadd, 1) := by decide +kernel
theorem dL_law_248 : decode code 248 = .ok (.iaload, 1) := by decide +kernel
theorem dL_law_249 : decode code 249 = .ok (.aload_n 0, 1) := by decide +kernel
theorem dL_law_250 : decode code 250 = .ok (.iload_n 3, 1) := by decide +kernel
theorem dL_law_251 : decode code 251 = .ok (.iconst 5, 1) := by decide +kernel
theorem dL_law_252 : decode code 252 = .ok (.iadd, 1) := by decide +kernel
theorem dL_law_253 : decode code 253 = .ok (.iaload, 1) := by decide +kernel
theorem dL_law_254 : decode code 254 = .ok (.invokevirtual 13, 3) := by decide +kernel
theorem dL_law_257 : decode code 257 = .ok (.aload_n 2, 1) := by decide +kernel
theorem dL_law_258 : decode code 258 = .ok (.aload_n 0, 1) := by decide +kernel
theorem dL_law_259 : decode code 259 = .ok (.iload_n 3, 1) := by decide +kernel
theorem dL_law_260 : decode code 260 = .ok (.iconst 1, 1) := by decide +kernel
theorem dL_law_261 : decode code 261 = .ok (.iadd, 1) := by decide +kernel
theorem dL_law_262 : decode code 262 = .ok (.iaload, 1) := by decide +kernel
theorem dL_law_263 : decode code 263 = .ok (.aload_n 0, 1) := by decide +kernel
theorem dL_law_264 : decode code 264 = .ok (.iload_n 3, 1) := by decide +kernel
theorem dL_law_265 : decode code 265 = .ok (.iconst 2, 1) := by decide +kernel
theorem dL_law_266 : decode code 266 = .ok (.iadd, 1) := by decide +kernel
theorem dL_law_267 : decode code 267 = .ok (.iaload, 1) := by decide +kernel
theorem dL_law_268 : decode code 268 = .ok (.aload_n 0, 1) := by decide +kernel
theorem dL_law_269 : decode code 269 = .ok (.iload_n 3, 1) := by decide +kernel
theorem dL_law_270 : decode code 270 = .ok (.iconst 3, 1) := by decide +kernel
theorem dL_law_271 : decode code 271 = .ok (.iadd, 1) := by decide +kernel
theorem dL_law_272 : decode code 272 = .ok (.iaload, 1) := by decide +kernel
theorem dL_law_273 : decode code 273 = .ok (.aload_n 0, 1) := by decide +kernel
theorem dL_law_274 : decode code 274 = .ok (.iload_n 3, 1) := by decide +kernel
theorem dL_law_275 : decode code 275 = .ok (.iconst 4, 1) := by decide +kernel
theorem dL_law_276 : decode code 276 = .ok (.iadd, 1) := by decide +kernel
theorem dL_law_277 : decode code 277 = .ok (.iaload, 1) := by decide +kernel
theorem dL_law_278 : decode code 278 = .ok (.aload_n 0, 1) := by decide +kernel
theorem dL_law_279 : decode code 279 = .ok (.iload_n 3, 1) := by decide +kernel
theorem dL_law_280 : decode code 280 = .ok (.iconst 5, 1) := by decide +kernel
theorem dL_law_281 : decode code 281 = .ok (.iadd, 1) := by decide +kernel
theorem dL_law_282 : decode code 282 = .ok (.iaload, 1) := by decide +kernel
theorem dL_law_283 : decode code 283 = .ok (.invokevirtual 17, 3) := by decide +kernel
theorem dL_law_286 : decode code 286 = .ok (.if_icmp .eq 1328, 3) := by decide +kernel
theorem dL_law_289 : decode code 289 = .ok (.iconst 0, 1) := by decide +kernel
theorem dL_law_290 : decode code 290 = .ok (.ireturn, 1) := by decide +kernel
theorem dL_law_291 : decode code 291 = .ok (.aload_n 1, 1) := by decide +kernel
theorem dL_law_292 : decode code 292 = .ok (.aload_n 0, 1) := by decide +kernel
theorem dL_law_293 : decode code 293 = .ok (.iload_n 3, 1) := by decide +kernel
theorem dL_law_294 : decode code 294 = .ok (.iconst 1, 1) := by decide +kernel
theorem dL_law_295 : decode code 295 = .ok (.iadd, 1) := by decide +kernel
theorem dL_law_296 : decode code 296 = .ok (.iaload, 1) := by decide +kernel
theorem dL_law_297 : decode code 297 = .ok (.invokevirtual 18, 3) := by decide +kernel
theorem dL_law_300 : decode code 300 = .ok (.aload_n 2, 1) := by decide +kernel
theorem dL_law_301 : decode code 301 = .ok (.aload_n 0, 1) := by decide +kernel
theorem dL_law_302 : decode code 302 = .ok (.iload_n 3, 1) := by decide +kernel
theorem dL_law_303 : decode code 303 = .ok (.iconst 1, 1) := by decide +kernel
theorem dL_law_304 : decode code 304 = .ok (.iadd, 1) := by decide +kernel
theorem dL_law_305 : decode code 305 = .ok (.iaload, 1) := by decide +kernel
theorem dL_law_306 : decode code 306 = .ok (.invokevirtual 22, 3) := by decide +kernel
theorem dL_law_309 : decode code 309 = .ok (.if_icmp .eq 1305, 3) := by decide +kernel
theorem dL_law_312 : decode code 312 = .ok (.iconst 0, 1) := by decide +kernel
theorem dL_law_313 : decode code 313 = .ok (.ireturn, 1) := by decide +kernel
theorem dL_law_314 : decode code 314 = .ok (.aload_n 1, 1) := by decide +kernel
theorem dL_law_315 : decode code 315 = .ok (.aload_n 0, 1) := by decide +kernel
theorem dL_law_316 : decode code 316 = .ok (.iload_n 3, 1) := by decide +kernel
theorem dL_law_317 : decode code 317 = .ok (.iconst 1, 1) := by decide +kernel
theorem dL_law_318 : decode code 318 = .ok (.iadd, 1) := by decide +kernel
theorem dL_law_319 : decode code 319 = .ok (.iaload, 1) := by decide +kernel
theorem dL_law_320 : decode code 320 = .ok (.invokevirtual 23, 3) := by decide +kernel
theorem dL_law_323 : decode code 323 = .ok (.aload_n 2, 1) := by decide +kernel
theorem dL_law_324 : decode code 324 = .ok (.aload_n 0, 1) := by decide +kernel
theorem dL_law_325 : decode code 325 = .ok (.iload_n 3, 1) := by decide +kernel
theorem dL_law_326 : decode code 326 = .ok (.iconst 1, 1) := by decide +kernel
theorem dL_law_327 : decode code 327 = .ok (.iadd, 1) := by decide +kernel
theorem dL_law_328 : decode code 328 = .ok (.iaload, 1) := by decide +kernel
theorem dL_law_329 : decode code 329 = .ok (.invokevirtual 26, 3) := by decide +kernel
theorem dL_law_332 : decode code 332 = .ok (.if_icmp .eq 1282, 3) := by decide +kernel
theorem dL_law_335 : decode code 335 = .ok (.iconst 0, 1) := by decide +kernel
theorem dL_law_336 : decode code 336 = .ok (.ireturn, 1) := by decide +kernel
theorem dL_law_337 : decode code 337 = .ok (.aload_n 1, 1) := by decide +kernel
theorem dL_law_338 : decode code 338 = .ok (.aload_n 0, 1) := by decide +kernel
theorem dL_law_339 : decode code 339 = .ok (.iload_n 3, 1) := by decide +kernel
theorem dL_law_340 : decode code 340 = .ok (.iconst 1, 1) := by decide +kernel
theorem dL_law_341 : decode code 341 = .ok (.iadd, 1) := by decide +kernel
theorem dL_law_342 : decode code 342 = .ok (.iaload, 1) := by decide +kernel
theorem dL_law_343 : decode code 343 = .ok (.aload_n 0, 1) := by decide +kernel
theorem dL_law_344 : decode code 344 = .ok (.iload_n 3, 1) := by decide +kernel
theorem dL_law_345 : decode code 345 = .ok (.iconst 2, 1) := by decide +kernel
theorem dL_law_346 : decode code 346 = .ok (.iadd, 1) := by decide +kernel
theorem dL_law_347 : decode code 347 = .ok (.iaload, 1) := by decide +kernel
theorem dL_law_348 : decode code 348 = .ok (.invokevirtual 27, 3) := by decide +kernel
theorem dL_law_351 : decode code 351 = .ok (.aload_n 2, 1) := by decide +kernel
theorem dL_law_352 : decode code 352 = .ok (.aload_n 0, 1) := by decide +kernel
theorem dL_law_353 : decode code 353 = .ok (.iload_n 3, 1) := by decide +kernel
theorem dL_law_354 : decode code 354 = .ok (.iconst 1, 1) := by decide +kernel
theorem dL_law_355 : decode code 355 = .ok (.iadd, 1) := by decide +kernel
theorem dL_law_356 : decode code 356 = .ok (.iaload, 1) := by decide +kernel
theorem dL_law_357 : decode code 357 = .ok (.aload_n 0, 1) := by decide +kernel
theorem dL_law_358 : decode code 358 = .ok (.iload_n 3, 1) := by decide +kernel
theorem dL_law_359 : decode code 359 = .ok (.iconst 2, 1) := by decide +kernel
theorem dL_law_360 : decode code 360 = .ok (.iadd, 1) := by decide +kernel
theorem dL_law_361 : decode code 361 = .ok (.iaload, 1) := by decide +kernel
theorem dL_law_362 : decode code 362 = .ok (.invokevirtual 31, 3) := by decide +kernel
theorem dL_law_365 : decode code 365 = .ok (.if_icmp .eq 1249, 3) := by decide +kernel
theorem dL_law_368 : decode code 368 = .ok (.iconst 0, 1) := by decide +kernel
theorem dL_law_369 : decode code 369 = .ok (.ireturn, 1) := by decide +kernel
theorem dL_law_370 : decode code 370 = .ok (.aload_n 1, 1) := by decide +kernel
theorem dL_law_371 : decode code 371 = .ok (.aload_n 0, 1) := by decide +kernel
theorem dL_law_372 : decode code 372 = .ok (.iload_n 3, 1) := by decide +kernel
theorem dL_law_373 : decode code 373 = .ok (.iconst 1, 1) := by decide +kernel
theorem dL_law_374 : decode code 374 = .ok (.iadd, 1) := by decide +kernel
theorem dL_law_375 : decode code 375 = .ok (.iaload, 1) := by decide +kernel
theorem dL_law_376 : decode code 376 = .ok (.aload_n 0, 1) := by decide +kernel
theorem dL_law_377 : decode code 377 = .ok (.iload_n 3, 1) := by decide +kernel
theorem dL_law_378 : decode code 378 = .ok (.iconst 2, 1) := by decide +kernel
theorem dL_law_379 : decode code 379 = .ok (.iadd, 1) := by decide +kernel
theorem dL_law_380 : decode code 380 = .ok (.iaload, 1) := by decide +kernel
theorem dL_law_381 : decode code 381 = .ok (.invokevirtual 32, 3) := by decide +kernel
theorem dL_law_384 : decode code 384 = .ok (.aload_n 2, 1) := by decide +kernel
theorem dL_law_385 : decode code 385 = .ok (.aload_n 0, 1) := by decide +kernel
theorem dL_law_386 : decode code 386 = .ok (.iload_n 3, 1) := by decide +kernel
theorem dL_law_387 : decode code 387 = .ok (.iconst 1, 1) := by decide +kernel
theorem dL_law_388 : decode code 388 = .ok (.iadd, 1) := by decide +kernel
theorem dL_law_389 : decode code 389 = .ok (.iaload, 1) := by decide +kernel
theorem dL_law_390 : decode code 390 = .ok (.aload_n 0, 1) := by decide +kernel
theorem dL_law_391 : decode code 391 = .ok (.iload_n 3, 1) := by decide +kernel
theorem dL_law_392 : decode code 392 = .ok (.iconst 2, 1) := by decide +kernel
theorem dL_law_393 : decode code 393 = .ok (.iadd, 1) := by decide +kernel
theorem dL_law_394 : decode code 394 = .ok (.iaload, 1) := by decide +kernel
theorem dL_law_395 : decode code 395 = .ok (.invokevirtual 35, 3) := by decide +kernel
theorem dL_law_398 : decode code 398 = .ok (.if_icmp .eq 1216, 3) := by decide +kernel
theorem dL_law_401 : decode code 401 = .ok (.iconst 0, 1) := by decide +kernel
theorem dL_law_402 : decode code 402 = .ok (.ireturn, 1) := by decide +kernel
theorem dL_law_403 : decode code 403 = .ok (.aload_n 1, 1) := by decide +kernel
theorem dL_law_404 : decode code 404 = .ok (.aload_n 0, 1) := by decide +kernel
theorem dL_law_405 : decode code 405 = .ok (.iload_n 3, 1) := by decide +kernel
theorem dL_law_406 : decode code 406 = .ok (.iconst 1, 1) := by decide +kernel
theorem dL_law_407 : decode code 407 = .ok (.iadd, 1) := by decide +kernel
theorem dL_law_408 : decode code 408 = .ok (.iaload, 1) := by decide +kernel
theorem dL_law_409 : decode code 409 = .ok (.aload_n 0, 1) := by decide +kernel
theorem dL_law_410 : decode code 410 = .ok (.iload_n 3, 1) := by decide +kernel
theorem dL_law_411 : decode code 411 = .ok (.iconst 2, 1) := by decide +kernel
theorem dL_law_412 : decode code 412 = .ok (.iadd, 1) := by decide +kernel
theorem dL_law_413 : decode code 413 = .ok (.iaload, 1) := by decide +kernel
theorem dL_law_414 : decode code 414 = .ok (.invokevirtual 36, 3) := by decide +kernel
theorem dL_law_417 : decode code 417 = .ok (.aload_n 2, 1) := by decide +kernel
theorem dL_law_418 : decode code 418 = .ok (.aload_n 0, 1) := by decide +kernel
theorem dL_law_419 : decode code 419 = .ok (.iload_n 3, 1) := by decide +kernel
theorem dL_law_420 : decode code 420 = .ok (.iconst 1, 1) := by decide +kernel
theorem dL_law_421 : decode code 421 = .ok (.iadd, 1) := by decide +kernel
theorem dL_law_422 : decode code 422 = .ok (.iaload, 1) := by decide +kernel
theorem dL_law_423 : decode code 423 = .ok (.aload_n 0, 1) := by decide +kernel
theorem dL_law_424 : decode code 424 = .ok (.iload_n 3, 1) := by decide +kernel
theorem dL_law_425 : decode code 425 = .ok (.iconst 2, 1) := by decide +kernel
theorem dL_law_426 : decode code 426 = .ok (.iadd, 1) := by decide +kernel
theorem dL_law_427 : decode code 427 = .ok (.iaload, 1) := by decide +kernel
theorem dL_law_428 : decode code 428 = .ok (.invokevirtual 39, 3) := by decide +kernel
theorem dL_law_431 : decode code 431 = .ok (.if_icmp .eq 1183, 3) := by decide +kernel
theorem dL_law_434 : decode code 434 = .ok (.iconst 0, 1) := by decide +kernel
theorem dL_law_435 : decode code 435 = .ok (.ireturn, 1) := by decide +kernel
theorem dL_law_436 : decode code 436 = .ok (.aload_n 1, 1) := by decide +kernel
theorem dL_law_437 : decode code 437 = .ok (.aload_n 0, 1) := by decide +kernel
theorem dL_law_438 : decode code 438 = .ok (.iload_n 3, 1) := by decide +kernel
theorem dL_law_439 : decode code 439 = .ok (.iconst 1, 1) := by decide +kernel
theorem dL_law_440 : decode code 440 = .ok (.iadd, 1) := by decide +kernel
theorem dL_law_441 : decode code 441 = .ok (.iaload, 1) := by decide +kernel
theorem dL_law_442 : decode code 442 = .ok (.aload_n 0, 1) := by decide +kernel
theorem dL_law_443 : decode code 443 = .ok (.iload_n 3, 1) := by decide +kernel
theorem dL_law_444 : decode code 444 = .ok (.iconst 2, 1) := by decide +kernel
theorem dL_law_445 : decode code 445 = .ok (.iadd, 1) := by decide +kernel
theorem dL_law_446 : decode code 446 = .ok (.iaload, 1) := by decide +kernel
theorem dL_law_447 : decode code 447 = .ok (.aload_n 0, 1) := by decide +kernel
theorem dL_law_448 : decode code 448 = .ok (.iload_n 3, 1) := by decide +kernel
theorem dL_law_449 : decode code 449 = .ok (.iconst 3, 1) := by decide +kernel
theorem dL_law_450 : decode code 450 = .ok (.iadd, 1) := by decide +kernel
theorem dL_law_451 : decode code 451 = .ok (.iaload, 1) := by decide +kernel
theorem dL_law_452 : decode code 452 = .ok (.invokevirtual 40, 3) := by decide +kernel
theorem dL_law_455 : decode code 455 = .ok (.aload_n 2, 1) := by decide +kernel
theorem dL_law_456 : decode code 456 = .ok (.aload_n 0, 1) := by decide +kernel
theorem dL_law_457 : decode code 457 = .ok (.iload_n 3, 1) := by decide +kernel
theorem dL_law_458 : decode code 458 = .ok (.iconst 1, 1) := by decide +kernel
theorem dL_law_459 : decode code 459 = .ok (.iadd, 1) := by decide +kernel
theorem dL_law_460 : decode code 460 = .ok (.iaload, 1) := by decide +kernel
theorem dL_law_461 : decode code 461 = .ok (.aload_n 0, 1) := by decide +kernel
theorem dL_law_462 : decode code 462 = .ok (.iload_n 3, 1) := by decide +kernel
theorem dL_law_463 : decode code 463 = .ok (.iconst 2, 1) := by decide +kernel
theorem dL_law_464 : decode code 464 = .ok (.iadd, 1) := by decide +kernel
theorem dL_law_465 : decode code 465 = .ok (.iaload, 1) := by decide +kernel
theorem dL_law_466 : decode code 466 = .ok (.aload_n 0, 1) := by decide +kernel
theorem dL_law_467 : decode code 467 = .ok (.iload_n 3, 1) := by decide +kernel
theorem dL_law_468 : decode code 468 = .ok (.iconst 3, 1) := by decide +kernel
theorem dL_law_469 : decode code 469 = .ok (.iadd, 1) := by decide +kernel
theorem dL_law_470 : decode code 470 = .ok (.iaload, 1) := by decide +kernel
theorem dL_law_471 : decode code 471 = .ok (.invokevirtual 44, 3) := by decide +kernel
theorem dL_law_474 : decode code 474 = .ok (.if_icmp .eq 1140, 3) := by decide +kernel
theorem dL_law_477 : decode code 477 = .ok (.iconst 0, 1) := by decide +kernel
theorem dL_law_478 : decode code 478 = .ok (.ireturn, 1) := by decide +kernel
theorem dL_law_479 : decode code 479 = .ok (.aload_n 1, 1) := by decide +kernel
theorem dL_law_480 : decode code 480 = .ok (.aload_n 0, 1) := by decide +kernel
theorem dL_law_481 : decode code 481 = .ok (.iload_n 3, 1) := by decide +kernel
theorem dL_law_482 : decode code 482 = .ok (.iconst 1, 1) := by decide +kernel
theorem dL_law_483 : decode code 483 = .ok (.iadd, 1) := by decide +kernel
theorem dL_law_484 : decode code 484 = .ok (.iaload, 1) := by decide +kernel
theorem dL_law_485 : decode code 485 = .ok (.aload_n 0, 1) := by decide +kernel
theorem dL_law_486 : decode code 486 = .ok (.iload_n 3, 1) := by decide +kernel
theorem dL_law_487 : decode code 487 = .ok (.iconst 2, 1) := by decide +kernel
theorem dL_law_488 : decode code 488 = .ok (.iadd, 1) := by decide +kernel
theorem dL_law_489 : decode code 489 = .ok (.iaload, 1) := by decide +kernel
theorem dL_law_490 : decode code 490 = .ok (.invokevirtual 45, 3) := by decide +kernel
theorem dL_law_493 : decode code 493 = .ok (.aload_n 2, 1) := by decide +kernel
theorem dL_law_494 : decode code 494 = .ok (.aload_n 0, 1) := by decide +kernel
theorem dL_law_495 : decode code 495 = .ok (.iload_n 3, 1) := by decide +kernel
theorem dL_law_496 : decode code 496 = .ok (.iconst 1, 1) := by decide +kernel
theorem dL_law_497 : decode code 497 = .ok (.iadd, 1) := by decide +kernel
theorem dL_law_498 : decode code 498 = .ok (.iaload, 1) := by decide +kernel
theorem dL_law_499 : decode code 499 = .ok (.aload_n 0, 1) := by decide +kernel
theorem dL_law_500 : decode code 500 = .ok (.iload_n 3, 1) := by decide +kernel
theorem dL_law_501 : decode code 501 = .ok (.iconst 2, 1) := by decide +kernel
theorem dL_law_502 : decode code 502 = .ok (.iadd, 1) := by decide +kernel
theorem dL_law_503 : decode code 503 = .ok (.iaload, 1) := by decide +kernel
theorem dL_law_504 : decode code 504 = .ok (.invokevirtual 48, 3) := by decide +kernel
theorem dL_law_507 : decode code 507 = .ok (.if_icmp .eq 1107, 3) := by decide +kernel
theorem dL_law_510 : decode code 510 = .ok (.iconst 0, 1) := by decide +kernel
theorem dL_law_511 : decode code 511 = .ok (.ireturn, 1) := by decide +kernel
theorem dL_law_512 : decode code 512 = .ok (.aload_n 1, 1) := by decide +kernel
theorem dL_law_513 : decode code 513 = .ok (.aload_n 0, 1) := by decide +kernel
theorem dL_law_514 : decode code 514 = .ok (.iload_n 3, 1) := by decide +kernel
theorem dL_law_515 : decode code 515 = .ok (.iconst 1, 1) := by decide +kernel
theorem dL_law_516 : decode code 516 = .ok (.iadd, 1) := by decide +kernel
theorem dL_law_517 : decode code 517 = .ok (.iaload, 1) := by decide +kernel
theorem dL_law_518 : decode code 518 = .ok (.aload_n 0, 1) := by decide +kernel
theorem dL_law_519 : decode code 519 = .ok (.iload_n 3, 1) := by decide +kernel
theorem dL_law_520 : decode code 520 = .ok (.iconst 2, 1) := by decide +kernel
theorem dL_law_521 : decode code 521 = .ok (.iadd, 1) := by decide +kernel
theorem dL_law_522 : decode code 522 = .ok (.iaload, 1) := by decide +kernel
theorem dL_law_523 : decode code 523 = .ok (.invokevirtual 49, 3) := by decide +kernel
theorem dL_law_526 : decode code 526 = .ok (.aload_n 2, 1) := by decide +kernel
theorem dL_law_527 : decode code 527 = .ok (.aload_n 0, 1) := by decide +kernel
theorem dL_law_528 : decode code 528 = .ok (.iload_n 3, 1) := by decide +kernel
theorem dL_law_529 : decode code 529 = .ok (.iconst 1, 1) := by decide +kernel
theorem dL_law_530 : decode code 530 = .ok (.iadd, 1) := by decide +kernel
theorem dL_law_531 : decode code 531 = .ok (.iaload, 1) := by decide +kernel
theorem dL_law_532 : decode code 532 = .ok (.aload_n 0, 1) := by decide +kernel
theorem dL_law_533 : decode code 533 = .ok (.iload_n 3, 1) := by decide +kernel
theorem dL_law_534 : decode code 534 = .ok (.iconst 2, 1) := by decide +kernel
theorem dL_law_535 : decode code 535 = .ok (.iadd, 1) := by decide +kernel
theorem dL_law_536 : decode code 536 = .ok (.iaload, 1) := by decide +kernel
theorem dL_law_537 : decode code 537 = .ok (.invokevirtual 52, 3) := by decide +kernel
theorem dL_law_540 : decode code 540 = .ok (.if_icmp .eq 1074, 3) := by decide +kernel
theorem dL_law_543 : decode code 543 = .ok (.iconst 0, 1) := by decide +kernel
theorem dL_law_544 : decode code 544 = .ok (.ireturn, 1) := by decide +kernel
theorem dL_law_545 : decode code 545 = .ok (.aload_n 1, 1) := by decide +kernel
theorem dL_law_546 : decode code 546 = .ok (.aload_n 0, 1) := by decide +kernel
theorem dL_law_547 : decode code 547 = .ok (.iload_n 3, 1) := by decide +kernel
theorem dL_law_548 : decode code 548 = .ok (.iconst 1, 1) := by decide +kernel
theorem dL_law_549 : decode code 549 = .ok (.iadd, 1) := by decide +kernel
theorem dL_law_550 : decode code 550 = .ok (.iaload, 1) := by decide +kernel
theorem dL_law_551 : decode code 551 = .ok (.aload_n 0, 1) := by decide +kernel
theorem dL_law_552 : decode code 552 = .ok (.iload_n 3, 1) := by decide +kernel
theorem dL_law_553 : decode code 553 = .ok (.iconst 2, 1) := by decide +kernel
theorem dL_law_554 : decode code 554 = .ok (.iadd, 1) := by decide +kernel
theorem dL_law_555 : decode code 555 = .ok (.iaload, 1) := by decide +kernel
theorem dL_law_556 : decode code 556 = .ok (.invokevirtual 53, 3) := by decide +kernel
theorem dL_law_559 : decode code 559 = .ok (.aload_n 2, 1) := by decide +kernel
theorem dL_law_560 : decode code 560 = .ok (.aload_n 0, 1) := by decide +kernel
theorem dL_law_561 : decode code 561 = .ok (.iload_n 3, 1) := by decide +kernel
theorem dL_law_562 : decode code 562 = .ok (.iconst 1, 1) := by decide +kernel
theorem dL_law_563 : decode code 563 = .ok (.iadd, 1) := by decide +kernel
theorem dL_law_564 : decode code 564 = .ok (.iaload, 1) := by decide +kernel
theorem dL_law_565 : decode code 565 = .ok (.aload_n 0, 1) := by decide +kernel
theorem dL_law_566 : decode code 566 = .ok (.iload_n 3, 1) := by decide +kernel
theorem dL_law_567 : decode code 567 = .ok (.iconst 2, 1) := by decide +kernel
theorem dL_law_568 : decode code 568 = .ok (.iadd, 1) := by decide +kernel
theorem dL_law_569 : decode code 569 = .ok (.iaload, 1) := by decide +kernel
theorem dL_law_570 : decode code 570 = .ok (.invokevirtual 56, 3) := by decide +kernel
theorem dL_law_573 : decode code 573 = .ok (.if_icmp .eq 1041, 3) := by decide +kernel
theorem dL_law_576 : decode code 576 = .ok (.iconst 0, 1) := by decide +kernel
theorem dL_law_577 : decode code 577 = .ok (.ireturn, 1) := by decide +kernel
theorem dL_law_578 : decode code 578 = .ok (.aload_n 1, 1) := by decide +kernel
theorem dL_law_579 : decode code 579 = .ok (.aload_n 0, 1) := by decide +kernel
theorem dL_law_580 : decode code 580 = .ok (.iload_n 3, 1) := by decide +kernel
theorem dL_law_581 : decode code 581 = .ok (.iconst 1, 1) := by decide +kernel
theorem dL_law_582 : decode code 582 = .ok (.iadd, 1) := by decide +kernel
theorem dL_law_583 : decode code 583 = .ok (.iaload, 1) := by decide +kernel
theorem dL_law_584 : decode code 584 = .ok (.invokevirtual 57, 3) := by decide +kernel
theorem dL_law_587 : decode code 587 = .ok (.aload_n 2, 1) := by decide +kernel
theorem dL_law_588 : decode code 588 = .ok (.aload_n 0, 1) := by decide +kernel
theorem dL_law_589 : decode code 589 = .ok (.iload_n 3, 1) := by decide +kernel
theorem dL_law_590 : decode code 590 = .ok (.iconst 1, 1) := by decide +kernel
theorem dL_law_591 : decode code 591 = .ok (.iadd, 1) := by decide +kernel
theorem dL_law_592 : decode code 592 = .ok (.iaload, 1) := by decide +kernel
theorem dL_law_593 : decode code 593 = .ok (.invokevirtual 60, 3) := by decide +kernel
theorem dL_law_596 : decode code 596 = .ok (.if_icmp .eq 1018, 3) := by decide +kernel
theorem dL_law_599 : decode code 599 = .ok (.iconst 0, 1) := by decide +kernel
theorem dL_law_600 : decode code 600 = .ok (.ireturn, 1) := by decide +kernel
theorem dL_law_601 : decode code 601 = .ok (.aload_n 1, 1) := by decide +kernel
theorem dL_law_602 : decode code 602 = .ok (.aload_n 0, 1) := by decide +kernel
theorem dL_law_603 : decode code 603 = .ok (.iload_n 3, 1) := by decide +kernel
theorem dL_law_604 : decode code 604 = .ok (.iconst 1, 1) := by decide +kernel
theorem dL_law_605 : decode code 605 = .ok (.iadd, 1) := by decide +kernel
theorem dL_law_606 : decode code 606 = .ok (.iaload, 1) := by decide +kernel
theorem dL_law_607 : decode code 607 = .ok (.aload_n 0, 1) := by decide +kernel
theorem dL_law_608 : decode code 608 = .ok (.iload_n 3, 1) := by decide +kernel
theorem dL_law_609 : decode code 609 = .ok (.iconst 2, 1) := by decide +kernel
theorem dL_law_610 : decode code 610 = .ok (.iadd, 1) := by decide +kernel
theorem dL_law_611 : decode code 611 = .ok (.iaload, 1) := by decide +kernel
theorem dL_law_612 : decode code 612 = .ok (.invokevirtual 61, 3) := by decide +kernel
theorem dL_law_615 : decode code 615 = .ok (.aload_n 2, 1) := by decide +kernel
theorem dL_law_616 : decode code 616 = .ok (.aload_n 0, 1) := by decide +kernel
theorem dL_law_617 : decode code 617 = .ok (.iload_n 3, 1) := by decide +kernel
theorem dL_law_618 : decode code 618 = .ok (.iconst 1, 1) := by decide +kernel
theorem dL_law_619 : decode code 619 = .ok (.iadd, 1) := by decide +kernel
theorem dL_law_620 : decode code 620 = .ok (.iaload, 1) := by decide +kernel
theorem dL_law_621 : decode code 621 = .ok (.aload_n 0, 1) := by decide +kernel
theorem dL_law_622 : decode code 622 = .ok (.iload_n 3, 1) := by decide +kernel
theorem dL_law_623 : decode code 623 = .ok (.iconst 2, 1) := by decide +kernel
theorem dL_law_624 : decode code 624 = .ok (.iadd, 1) := by decide +kernel
theorem dL_law_625 : decode code 625 = .ok (.iaload, 1) := by decide +kernel
theorem dL_law_626 : decode code 626 = .ok (.invokevirtual 64, 3) := by decide +kernel
theorem dL_law_629 : decode code 629 = .ok (.if_icmp .eq 985, 3) := by decide +kernel
theorem dL_law_632 : decode code 632 = .ok (.iconst 0, 1) := by decide +kernel
theorem dL_law_633 : decode code 633 = .ok (.ireturn, 1) := by decide +kernel
theorem dL_law_634 : decode code 634 = .ok (.aload_n 1, 1) := by decide +kernel
theorem dL_law_635 : decode code 635 = .ok (.aload_n 0, 1) := by decide +kernel
theorem dL_law_636 : decode code 636 = .ok (.iload_n 3, 1) := by decide +kernel
theorem dL_law_637 : decode code 637 = .ok (.iconst 1, 1) := by decide +kernel
theorem dL_law_638 : decode code 638 = .ok (.iadd, 1) := by decide +kernel
theorem dL_law_639 : decode code 639 = .ok (.iaload, 1) := by decide +kernel
theorem dL_law_640 : decode code 640 = .ok (.aload_n 0, 1) := by decide +kernel
theorem dL_law_641 : decode code 641 = .ok (.iload_n 3, 1) := by decide +kernel
theorem dL_law_642 : decode code 642 = .ok (.iconst 2, 1) := by decide +kernel
theorem dL_law_643 : decode code 643 = .ok (.iadd, 1) := by decide +kernel
theorem dL_law_644 : decode code 644 = .ok (.iaload, 1) := by decide +kernel
theorem dL_law_645 : decode code 645 = .ok (.invokevirtual 65, 3) := by decide +kernel
theorem dL_law_648 : decode code 648 = .ok (.aload_n 2, 1) := by decide +kernel
theorem dL_law_649 : decode code 649 = .ok (.aload_n 0, 1) := by decide +kernel
theorem dL_law_650 : decode code 650 = .ok (.iload_n 3, 1) := by decide +kernel
theorem dL_law_651 : decode code 651 = .ok (.iconst 1, 1) := by decide +kernel
theorem dL_law_652 : decode code 652 = .ok (.iadd, 1) := by decide +kernel
theorem dL_law_653 : decode code 653 = .ok (.iaload, 1) := by decide +kernel
theorem dL_law_654 : decode code 654 = .ok (.aload_n 0, 1) := by decide +kernel
theorem dL_law_655 : decode code 655 = .ok (.iload_n 3, 1) := by decide +kernel
theorem dL_law_656 : decode code 656 = .ok (.iconst 2, 1) := by decide +kernel
theorem dL_law_657 : decode code 657 = .ok (.iadd, 1) := by decide +kernel
theorem dL_law_658 : decode code 658 = .ok (.iaload, 1) := by decide +kernel
theorem dL_law_659 : decode code 659 = .ok (.invokevirtual 68, 3) := by decide +kernel
theorem dL_law_662 : decode code 662 = .ok (.if_icmp .eq 952, 3) := by decide +kernel
theorem dL_law_665 : decode code 665 = .ok (.iconst 0, 1) := by decide +kernel
theorem dL_law_666 : decode code 666 = .ok (.ireturn, 1) := by decide +kernel
theorem dL_law_667 : decode code 667 = .ok (.aload_n 1, 1) := by decide +kernel
theorem dL_law_668 : decode code 668 = .ok (.aload_n 0, 1) := by decide +kernel
theorem dL_law_669 : decode code 669 = .ok (.iload_n 3, 1) := by decide +kernel
theorem dL_law_670 : decode code 670 = .ok (.iconst 1, 1) := by decide +kernel
theorem dL_law_671 : decode code 671 = .ok (.iadd, 1) := by decide +kernel
theorem dL_law_672 : decode code 672 = .ok (.iaload, 1) := by decide +kernel
theorem dL_law_673 : decode code 673 = .ok (.invokevirtual 69, 3) := by decide +kernel
theorem dL_law_676 : decode code 676 = .ok (.aload_n 2, 1) := by decide +kernel
theorem dL_law_677 : decode code 677 = .ok (.aload_n 0, 1) := by decide +kernel
theorem dL_law_678 : decode code 678 = .ok (.iload_n 3, 1) := by decide +kernel
theorem dL_law_679 : decode code 679 = .ok (.iconst 1, 1) := by decide +kernel
theorem dL_law_680 : decode code 680 = .ok (.iadd, 1) := by decide +kernel
theorem dL_law_681 : decode code 681 = .ok (.iaload, 1) := by decide +kernel
theorem dL_law_682 : decode code 682 = .ok (.invokevirtual 72, 3) := by decide +kernel
theorem dL_law_685 : decode code 685 = .ok (.if_icmp .eq 929, 3) := by decide +kernel
theorem dL_law_688 : decode code 688 = .ok (.iconst 0, 1) := by decide +kernel
theorem dL_law_689 : decode code 689 = .ok (.ireturn, 1) := by decide +kernel
theorem dL_law_690 : decode code 690 = .ok (.aload_n 1, 1) := by decide +kernel
theorem dL_law_691 : decode code 691 = .ok (.aload_n 0, 1) := by decide +kernel
theorem dL_law_692 : decode code 692 = .ok (.iload_n 3, 1) := by decide +kernel
theorem dL_law_693 : decode code 693 = .ok (.iconst 1, 1) := by decide +kernel
theorem dL_law_694 : decode code 694 = .ok (.iadd, 1) := by decide +kernel
theorem dL_law_695 : decode code 695 = .ok (.iaload, 1) := by decide +kernel
theorem dL_law_696 : decode code 696 = .ok (.invokevirtual 73, 3) := by decide +kernel
theorem dL_law_699 : decode code 699 = .ok (.aload_n 2, 1) := by decide +kernel
theorem dL_law_700 : decode code 700 = .ok (.aload_n 0, 1) := by decide +kernel
theorem dL_law_701 : decode code 701 = .ok (.iload_n 3, 1) := by decide +kernel
theorem dL_law_702 : decode code 702 = .ok (.iconst 1, 1) := by decide +kernel
theorem dL_law_703 : decode code 703 = .ok (.iadd, 1) := by decide +kernel
theorem dL_law_704 : decode code 704 = .ok (.iaload, 1) := by decide +kernel
theorem dL_law_705 : decode code 705 = .ok (.invokevirtual 76, 3) := by decide +kernel
theorem dL_law_708 : decode code 708 = .ok (.if_icmp .eq 906, 3) := by decide +kernel
theorem dL_law_711 : decode code 711 = .ok (.iconst 0, 1) := by decide +kernel
theorem dL_law_712 : decode code 712 = .ok (.ireturn, 1) := by decide +kernel
theorem dL_law_713 : decode code 713 = .ok (.aload_n 1, 1) := by decide +kernel
theorem dL_law_714 : decode code 714 = .ok (.aload_n 0, 1) := by decide +kernel
theorem dL_law_715 : decode code 715 = .ok (.iload_n 3, 1) := by decide +kernel
theorem dL_law_716 : decode code 716 = .ok (.iconst 1, 1) := by decide +kernel
theorem dL_law_717 : decode code 717 = .ok (.iadd, 1) := by decide +kernel
theorem dL_law_718 : decode code 718 = .ok (.iaload, 1) := by decide +kernel
theorem dL_law_719 : decode code 719 = .ok (.aload_n 0, 1) := by decide +kernel
theorem dL_law_720 : decode code 720 = .ok (.iload_n 3, 1) := by decide +kernel
theorem dL_law_721 : decode code 721 = .ok (.iconst 2, 1) := by decide +kernel
theorem dL_law_722 : decode code 722 = .ok (.iadd, 1) := by decide +kernel
theorem dL_law_723 : decode code 723 = .ok (.iaload, 1) := by decide +kernel
theorem dL_law_724 : decode code 724 = .ok (.invokevirtual 77, 3) := by decide +kernel
theorem dL_law_727 : decode code 727 = .ok (.aload_n 2, 1) := by decide +kernel
theorem dL_law_728 : decode code 728 = .ok (.aload_n 0, 1) := by decide +kernel
theorem dL_law_729 : decode code 729 = .ok (.iload_n 3, 1) := by decide +kernel
theorem dL_law_730 : decode code 730 = .ok (.iconst 1, 1) := by decide +kernel
theorem dL_law_731 : decode code 731 = .ok (.iadd, 1) := by decide +kernel
theorem dL_law_732 : decode code 732 = .ok (.iaload, 1) := by decide +kernel
theorem dL_law_733 : decode code 733 = .ok (.aload_n 0, 1) := by decide +kernel
theorem dL_law_734 : decode code 734 = .ok (.iload_n 3, 1) := by decide +kernel
theorem dL_law_735 : decode code 735 = .ok (.iconst 2, 1) := by decide +kernel
theorem dL_law_736 : decode code 736 = .ok (.iadd, 1) := by decide +kernel
theorem dL_law_737 : decode code 737 = .ok (.iaload, 1) := by decide +kernel
theorem dL_law_738 : decode code 738 = .ok (.invokevirtual 80, 3) := by decide +kernel
theorem dL_law_741 : decode code 741 = .ok (.if_icmp .eq 873, 3) := by decide +kernel
theorem dL_law_744 : decode code 744 = .ok (.iconst 0, 1) := by decide +kernel
theorem dL_law_745 : decode code 745 = .ok (.ireturn, 1) := by decide +kernel
theorem dL_law_746 : decode code 746 = .ok (.aload_n 1, 1) := by decide +kernel
theorem dL_law_747 : decode code 747 = .ok (.aload_n 0, 1) := by decide +kernel
theorem dL_law_748 : decode code 748 = .ok (.iload_n 3, 1) := by decide +kernel
theorem dL_law_749 : decode code 749 = .ok (.iconst 1, 1) := by decide +kernel
theorem dL_law_750 : decode code 750 = .ok (.iadd, 1) := by decide +kernel
theorem dL_law_751 : decode code 751 = .ok (.iaload, 1) := by decide +kernel
theorem dL_law_752 : decode code 752 = .ok (.invokevirtual 81, 3) := by decide +kernel
theorem dL_law_755 : decode code 755 = .ok (.aload_n 2, 1) := by decide +kernel
theorem dL_law_756 : decode code 756 = .ok (.aload_n 0, 1) := by decide +kernel
theorem dL_law_757 : decode code 757 = .ok (.iload_n 3, 1) := by decide +kernel
theorem dL_law_758 : decode code 758 = .ok (.iconst 1, 1) := by decide +kernel
theorem dL_law_759 : decode code 759 = .ok (.iadd, 1) := by decide +kernel
theorem dL_law_760 : decode code 760 = .ok (.iaload, 1) := by decide +kernel
theorem dL_law_761 : decode code 761 = .ok (.invokevirtual 84, 3) := by decide +kernel
theorem dL_law_764 : decode code 764 = .ok (.if_icmp .eq 850, 3) := by decide +kernel
theorem dL_law_767 : decode code 767 = .ok (.iconst 0, 1) := by decide +kernel
theorem dL_law_768 : decode code 768 = .ok (.ireturn, 1) := by decide +kernel
theorem dL_law_769 : decode code 769 = .ok (.aload_n 1, 1) := by decide +kernel
theorem dL_law_770 : decode code 770 = .ok (.aload_n 0, 1) := by decide +kernel
theorem dL_law_771 : decode code 771 = .ok (.iload_n 3, 1) := by decide +kernel
theorem dL_law_772 : decode code 772 = .ok (.iconst 1, 1) := by decide +kernel
theorem dL_law_773 : decode code 773 = .ok (.iadd, 1) := by decide +kernel
theorem dL_law_774 : decode code 774 = .ok (.iaload, 1) := by decide +kernel
theorem dL_law_775 : decode code 775 = .ok (.aload_n 0, 1) := by decide +kernel
theorem dL_law_776 : decode code 776 = .ok (.iload_n 3, 1) := by decide +kernel
theorem dL_law_777 : decode code 777 = .ok (.iconst 2, 1) := by decide +kernel
theorem dL_law_778 : decode code 778 = .ok (.iadd, 1) := by decide +kernel
theorem dL_law_779 : decode code 779 = .ok (.iaload, 1) := by decide +kernel
theorem dL_law_780 : decode code 780 = .ok (.invokevirtual 85, 3) := by decide +kernel
theorem dL_law_783 : decode code 783 = .ok (.aload_n 2, 1) := by decide +kernel
theorem dL_law_784 : decode code 784 = .ok (.aload_n 0, 1) := by decide +kernel
theorem dL_law_785 : decode code 785 = .ok (.iload_n 3, 1) := by decide +kernel
theorem dL_law_786 : decode code 786 = .ok (.iconst 1, 1) := by decide +kernel
theorem dL_law_787 : decode code 787 = .ok (.iadd, 1) := by decide +kernel
theorem dL_law_788 : decode code 788 = .ok (.iaload, 1) := by decide +kernel
theorem dL_law_789 : decode code 789 = .ok (.aload_n 0, 1) := by decide +kernel
theorem dL_law_790 : decode code 790 = .ok (.iload_n 3, 1) := by decide +kernel
theorem dL_law_791 : decode code 791 = .ok (.iconst 2, 1) := by decide +kernel
theorem dL_law_792 : decode code 792 = .ok (.iadd, 1) := by decide +kernel
theorem dL_law_793 : decode code 793 = .ok (.iaload, 1) := by decide +kernel
theorem dL_law_794 : decode code 794 = .ok (.invokevirtual 88, 3) := by decide +kernel
theorem dL_law_797 : decode code 797 = .ok (.if_icmp .eq 817, 3) := by decide +kernel
theorem dL_law_800 : decode code 800 = .ok (.iconst 0, 1) := by decide +kernel
theorem dL_law_801 : decode code 801 = .ok (.ireturn, 1) := by decide +kernel
theorem dL_law_802 : decode code 802 = .ok (.aload_n 1, 1) := by decide +kernel
theorem dL_law_803 : decode code 803 = .ok (.aload_n 0, 1) := by decide +kernel
theorem dL_law_804 : decode code 804 = .ok (.iload_n 3, 1) := by decide +kernel
theorem dL_law_805 : decode code 805 = .ok (.iconst 1, 1) := by decide +kernel
theorem dL_law_806 : decode code 806 = .ok (.iadd, 1) := by decide +kernel
theorem dL_law_807 : decode code 807 = .ok (.iaload, 1) := by decide +kernel
theorem dL_law_808 : decode code 808 = .ok (.invokevirtual 89, 3) := by decide +kernel
theorem dL_law_811 : decode code 811 = .ok (.aload_n 2, 1) := by decide +kernel
theorem dL_law_812 : decode code 812 = .ok (.aload_n 0, 1) := by decide +kernel
theorem dL_law_813 : decode code 813 = .ok (.iload_n 3, 1) := by decide +kernel
theorem dL_law_814 : decode code 814 = .ok (.iconst 1, 1) := by decide +kernel
theorem dL_law_815 : decode code 815 = .ok (.iadd, 1) := by decide +kernel
theorem dL_law_816 : decode code 816 = .ok (.iaload, 1) := by decide +kernel
theorem dL_law_817 : decode code 817 = .ok (.invokevirtual 92, 3) := by decide +kernel
theorem dL_law_820 : decode code 820 = .ok (.if_icmp .eq 794, 3) := by decide +kernel
theorem dL_law_823 : decode code 823 = .ok (.iconst 0, 1) := by decide +kernel
theorem dL_law_824 : decode code 824 = .ok (.ireturn, 1) := by decide +kernel
theorem dL_law_825 : decode code 825 = .ok (.aload_n 1, 1) := by decide +kernel
theorem dL_law_826 : decode code 826 = .ok (.aload_n 0, 1) := by decide +kernel
theorem dL_law_827 : decode code 827 = .ok (.iload_n 3, 1) := by decide +kernel
theorem dL_law_828 : decode code 828 = .ok (.iconst 1, 1) := by decide +kernel
theorem dL_law_829 : decode code 829 = .ok (.iadd, 1) := by decide +kernel
theorem dL_law_830 : decode code 830 = .ok (.iaload, 1) := by decide +kernel
theorem dL_law_831 : decode code 831 = .ok (.invokevirtual 93, 3) := by decide +kernel
theorem dL_law_834 : decode code 834 = .ok (.aload_n 2, 1) := by decide +kernel
theorem dL_law_835 : decode code 835 = .ok (.aload_n 0, 1) := by decide +kernel
theorem dL_law_836 : decode code 836 = .ok (.iload_n 3, 1) := by decide +kernel
theorem dL_law_837 : decode code 837 = .ok (.iconst 1, 1) := by decide +kernel
theorem dL_law_838 : decode code 838 = .ok (.iadd, 1) := by decide +kernel
theorem dL_law_839 : decode code 839 = .ok (.iaload, 1) := by decide +kernel
theorem dL_law_840 : decode code 840 = .ok (.invokevirtual 96, 3) := by decide +kernel
theorem dL_law_843 : decode code 843 = .ok (.if_icmp .eq 771, 3) := by decide +kernel
theorem dL_law_846 : decode code 846 = .ok (.iconst 0, 1) := by decide +kernel
theorem dL_law_847 : decode code 847 = .ok (.ireturn, 1) := by decide +kernel
theorem dL_law_848 : decode code 848 = .ok (.aload_n 1, 1) := by decide +kernel
theorem dL_law_849 : decode code 849 = .ok (.aload_n 0, 1) := by decide +kernel
theorem dL_law_850 : decode code 850 = .ok (.iload_n 3, 1) := by decide +kernel
theorem dL_law_851 : decode code 851 = .ok (.iconst 1, 1) := by decide +kernel
theorem dL_law_852 : decode code 852 = .ok (.iadd, 1) := by decide +kernel
theorem dL_law_853 : decode code 853 = .ok (.iaload, 1) := by decide +kernel
theorem dL_law_854 : decode code 854 = .ok (.invokevirtual 97, 3) := by decide +kernel
theorem dL_law_857 : decode code 857 = .ok (.aload_n 2, 1) := by decide +kernel
theorem dL_law_858 : decode code 858 = .ok (.aload_n 0, 1) := by decide +kernel
theorem dL_law_859 : decode code 859 = .ok (.iload_n 3, 1) := by decide +kernel
theorem dL_law_860 : decode code 860 = .ok (.iconst 1, 1) := by decide +kernel
theorem dL_law_861 : decode code 861 = .ok (.iadd, 1) := by decide +kernel
theorem dL_law_862 : decode code 862 = .ok (.iaload, 1) := by decide +kernel
theorem dL_law_863 : decode code 863 = .ok (.invokevirtual 100, 3) := by decide +kernel
theorem dL_law_866 : decode code 866 = .ok (.if_icmp .eq 748, 3) := by decide +kernel
theorem dL_law_869 : decode code 869 = .ok (.iconst 0, 1) := by decide +kernel
theorem dL_law_870 : decode code 870 = .ok (.ireturn, 1) := by decide +kernel
theorem dL_law_871 : decode code 871 = .ok (.aload_n 1, 1) := by decide +kernel
theorem dL_law_872 : decode code 872 = .ok (.invokevirtual 101, 3) := by decide +kernel
theorem dL_law_875 : decode code 875 = .ok (.aload_n 2, 1) := by decide +kernel
theorem dL_law_876 : decode code 876 = .ok (.invokevirtual 105, 3) := by decide +kernel
theorem dL_law_879 : decode code 879 = .ok (.if_icmp .eq 735, 3) := by decide +kernel
theorem dL_law_882 : decode code 882 = .ok (.iconst 0, 1) := by decide +kernel
theorem dL_law_883 : decode code 883 = .ok (.ireturn, 1) := by decide +kernel
theorem dL_law_884 : decode code 884 = .ok (.aload_n 1, 1) := by decide +kernel
theorem dL_law_885 : decode code 885 = .ok (.invokevirtual 106, 3) := by decide +kernel
theorem dL_law_888 : decode code 888 = .ok (.aload_n 2, 1) := by decide +kernel
theorem dL_law_889 : decode code 889 = .ok (.invokevirtual 109, 3) := by decide +kernel
theorem dL_law_892 : decode code 892 = .ok (.if_icmp .eq 722, 3) := by decide +kernel
theorem dL_law_895 : decode code 895 = .ok (.iconst 0, 1) := by decide +kernel
theorem dL_law_896 : decode code 896 = .ok (.ireturn, 1) := by decide +kernel
theorem dL_law_897 : decode code 897 = .ok (.aload_n 1, 1) := by decide +kernel
theorem dL_law_898 : decode code 898 = .ok (.aload_n 0, 1) := by decide +kernel
theorem dL_law_899 : decode code 899 = .ok (.iload_n 3, 1) := by decide +kernel
theorem dL_law_900 : decode code 900 = .ok (.iconst 1, 1) := by decide +kernel
theorem dL_law_901 : decode code 901 = .ok (.iadd, 1) := by decide +kernel
theorem dL_law_902 : decode code 902 = .ok (.iaload, 1) := by decide +kernel
theorem dL_law_903 : decode code 903 = .ok (.invokevirtual 110, 3) := by decide +kernel
theorem dL_law_906 : decode code 906 = .ok (.aload_n 2, 1) := by decide +kernel
theorem dL_law_907 : decode code 907 = .ok (.aload_n 0, 1) := by decide +kernel
theorem dL_law_908 : decode code 908 = .ok (.iload_n 3, 1) := by decide +kernel
theorem dL_law_909 : decode code 909 = .ok (.iconst 1, 1) := by decide +kernel
theorem dL_law_910 : decode code 910 = .ok (.iadd, 1) := by decide +kernel
theorem dL_law_911 : decode code 911 = .ok (.iaload, 1) := by decide +kernel
theorem dL_law_912 : decode code 912 = .ok (.invokevirtual 113, 3) := by decide +kernel
theorem dL_law_915 : decode code 915 = .ok (.if_icmp .eq 699, 3) := by decide +kernel
theorem dL_law_918 : decode code 918 = .ok (.iconst 0, 1) := by decide +kernel
theorem dL_law_919 : decode code 919 = .ok (.ireturn, 1) := by decide +kernel
theorem dL_law_920 : decode code 920 = .ok (.aload_n 1, 1) := by decide +kernel
theorem dL_law_921 : decode code 921 = .ok (.aload_n 0, 1) := by decide +kernel
theorem dL_law_922 : decode code 922 = .ok (.iload_n 3, 1) := by decide +kernel
theorem dL_law_923 : decode code 923 = .ok (.iconst 1, 1) := by decide +kernel
theorem dL_law_924 : decode code 924 = .ok (.iadd, 1) := by decide +kernel
theorem dL_law_925 : decode code 925 = .ok (.iaload, 1) := by decide +kernel
theorem dL_law_926 : decode code 926 = .ok (.aload_n 0, 1) := by decide +kernel
theorem dL_law_927 : decode code 927 = .ok (.iload_n 3, 1) := by decide +kernel
theorem dL_law_928 : decode code 928 = .ok (.iconst 2, 1) := by decide +kernel
theorem dL_law_929 : decode code 929 = .ok (.iadd, 1) := by decide +kernel
theorem dL_law_930 : decode code 930 = .ok (.iaload, 1) := by decide +kernel
theorem dL_law_931 : decode code 931 = .ok (.invokevirtual 114, 3) := by decide +kernel
theorem dL_law_934 : decode code 934 = .ok (.aload_n 2, 1) := by decide +kernel
theorem dL_law_935 : decode code 935 = .ok (.aload_n 0, 1) := by decide +kernel
theorem dL_law_936 : decode code 936 = .ok (.iload_n 3, 1) := by decide +kernel
theorem dL_law_937 : decode code 937 = .ok (.iconst 1, 1) := by decide +kernel
theorem dL_law_938 : decode code 938 = .ok (.iadd, 1) := by decide +kernel
theorem dL_law_939 : decode code 939 = .ok (.iaload, 1) := by decide +kernel
theorem dL_law_940 : decode code 940 = .ok (.aload_n 0, 1) := by decide +kernel
theorem dL_law_941 : decode code 941 = .ok (.iload_n 3, 1) := by decide +kernel
theorem dL_law_942 : decode code 942 = .ok (.iconst 2, 1) := by decide +kernel
theorem dL_law_943 : decode code 943 = .ok (.iadd, 1) := by decide +kernel
theorem dL_law_944 : decode code 944 = .ok (.iaload, 1) := by decide +kernel
theorem dL_law_945 : decode code 945 = .ok (.invokevirtual 117, 3) := by decide +kernel
theorem dL_law_948 : decode code 948 = .ok (.if_icmp .eq 666, 3) := by decide +kernel
theorem dL_law_951 : decode code 951 = .ok (.iconst 0, 1) := by decide +kernel
theorem dL_law_952 : decode code 952 = .ok (.ireturn, 1) := by decide +kernel
theorem dL_law_953 : decode code 953 = .ok (.aload_n 1, 1) := by decide +kernel
theorem dL_law_954 : decode code 954 = .ok (.aload_n 0, 1) := by decide +kernel
theorem dL_law_955 : decode code 955 = .ok (.iload_n 3, 1) := by decide +kernel
theorem dL_law_956 : decode code 956 = .ok (.iconst 1, 1) := by decide +kernel
theorem dL_law_957 : decode code 957 = .ok (.iadd, 1) := by decide +kernel
theorem dL_law_958 : decode code 958 = .ok (.iaload, 1) := by decide +kernel
theorem dL_law_959 : decode code 959 = .ok (.aload_n 0, 1) := by decide +kernel
theorem dL_law_960 : decode code 960 = .ok (.iload_n 3, 1) := by decide +kernel
theorem dL_law_961 : decode code 961 = .ok (.iconst 2, 1) := by decide +kernel
theorem dL_law_962 : decode code 962 = .ok (.iadd, 1) := by decide +kernel
theorem dL_law_963 : decode code 963 = .ok (.iaload, 1) := by decide +kernel
theorem dL_law_964 : decode code 964 = .ok (.aload_n 0, 1) := by decide +kernel
theorem dL_law_965 : decode code 965 = .ok (.iload_n 3, 1) := by decide +kernel
theorem dL_law_966 : decode code 966 = .ok (.iconst 3, 1) := by decide +kernel
theorem dL_law_967 : decode code 967 = .ok (.iadd, 1) := by decide +kernel
theorem dL_law_968 : decode code 968 = .ok (.iaload, 1) := by decide +kernel
theorem dL_law_969 : decode code 969 = .ok (.invokevirtual 118, 3) := by decide +kernel
theorem dL_law_972 : decode code 972 = .ok (.aload_n 2, 1) := by decide +kernel
theorem dL_law_973 : decode code 973 = .ok (.aload_n 0, 1) := by decide +kernel
theorem dL_law_974 : decode code 974 = .ok (.iload_n 3, 1) := by decide +kernel
theorem dL_law_975 : decode code 975 = .ok (.iconst 1, 1) := by decide +kernel
theorem dL_law_976 : decode code 976 = .ok (.iadd, 1) := by decide +kernel
theorem dL_law_977 : decode code 977 = .ok (.iaload, 1) := by decide +kernel
theorem dL_law_978 : decode code 978 = .ok (.aload_n 0, 1) := by decide +kernel
theorem dL_law_979 : decode code 979 = .ok (.iload_n 3, 1) := by decide +kernel
theorem dL_law_980 : decode code 980 = .ok (.iconst 2, 1) := by decide +kernel
theorem dL_law_981 : decode code 981 = .ok (.iadd, 1) := by decide +kernel
theorem dL_law_982 : decode code 982 = .ok (.iaload, 1) := by decide +kernel
theorem dL_law_983 : decode code 983 = .ok (.aload_n 0, 1) := by decide +kernel
theorem dL_law_984 : decode code 984 = .ok (.iload_n 3, 1) := by decide +kernel
theorem dL_law_985 : decode code 985 = .ok (.iconst 3, 1) := by decide +kernel
theorem dL_law_986 : decode code 986 = .ok (.iadd, 1) := by decide +kernel
theorem dL_law_987 : decode code 987 = .ok (.iaload, 1) := by decide +kernel
theorem dL_law_988 : decode code 988 = .ok (.invokevirtual 121, 3) := by decide +kernel
theorem dL_law_991 : decode code 991 = .ok (.if_icmp .eq 623, 3) := by decide +kernel
theorem dL_law_994 : decode code 994 = .ok (.iconst 0, 1) := by decide +kernel
theorem dL_law_995 : decode code 995 = .ok (.ireturn, 1) := by decide +kernel
theorem dL_law_996 : decode code 996 = .ok (.aload_n 1, 1) := by decide +kernel
theorem dL_law_997 : decode code 997 = .ok (.aload_n 0, 1) := by decide +kernel
theorem dL_law_998 : decode code 998 = .ok (.iload_n 3, 1) := by decide +kernel
theorem dL_law_999 : decode code 999 = .ok (.iconst 1, 1) := by decide +kernel
theorem dL_law_1000 : decode code 1000 = .ok (.iadd, 1) := by decide +kernel
theorem dL_law_1001 : decode code 1001 = .ok (.iaload, 1) := by decide +kernel
theorem dL_law_1002 : decode code 1002 = .ok (.aload_n 0, 1) := by decide +kernel
theorem dL_law_1003 : decode code 1003 = .ok (.iload_n 3, 1) := by decide +kernel
theorem dL_law_1004 : decode code 1004 = .ok (.iconst 2, 1) := by decide +kernel
theorem dL_law_1005 : decode code 1005 = .ok (.iadd, 1) := by decide +kernel
theorem dL_law_1006 : decode code 1006 = .ok (.iaload, 1) := by decide +kernel
theorem dL_law_1007 : decode code 1007 = .ok (.invokevirtual 122, 3) := by decide +kernel
theorem dL_law_1010 : decode code 1010 = .ok (.aload_n 2, 1) := by decide +kernel
theorem dL_law_1011 : decode code 1011 = .ok (.aload_n 0, 1) := by decide +kernel
theorem dL_law_1012 : decode code 1012 = .ok (.iload_n 3, 1) := by decide +kernel
theorem dL_law_1013 : decode code 1013 = .ok (.iconst 1, 1) := by decide +kernel
theorem dL_law_1014 : decode code 1014 = .ok (.iadd, 1) := by decide +kernel
theorem dL_law_1015 : decode code 1015 = .ok (.iaload, 1) := by decide +kernel
theorem dL_law_1016 : decode code 1016 = .ok (.aload_n 0, 1) := by decide +kernel
theorem dL_law_1017 : decode code 1017 = .ok (.iload_n 3, 1) := by decide +kernel
theorem dL_law_1018 : decode code 1018 = .ok (.iconst 2, 1) := by decide +kernel
theorem dL_law_1019 : decode code 1019 = .ok (.iadd, 1) := by decide +kernel
theorem dL_law_1020 : decode code 1020 = .ok (.iaload, 1) := by decide +kernel
theorem dL_law_1021 : decode code 1021 = .ok (.invokevirtual 125, 3) := by decide +kernel
theorem dL_law_1024 : decode code 1024 = .ok (.if_icmp .eq 590, 3) := by decide +kernel
theorem dL_law_1027 : decode code 1027 = .ok (.iconst 0, 1) := by decide +kernel
theorem dL_law_1028 : decode code 1028 = .ok (.ireturn, 1) := by decide +kernel
theorem dL_law_1029 : decode code 1029 = .ok (.aload_n 1, 1) := by decide +kernel
theorem dL_law_1030 : decode code 1030 = .ok (.aload_n 0, 1) := by decide +kernel
theorem dL_law_1031 : decode code 1031 = .ok (.iload_n 3, 1) := by decide +kernel
theorem dL_law_1032 : decode code 1032 = .ok (.iconst 1, 1) := by decide +kernel
theorem dL_law_1033 : decode code 1033 = .ok (.iadd, 1) := by decide +kernel
theorem dL_law_1034 : decode code 1034 = .ok (.iaload, 1) := by decide +kernel
theorem dL_law_1035 : decode code 1035 = .ok (.aload_n 0, 1) := by decide +kernel
theorem dL_law_1036 : decode code 1036 = .ok (.iload_n 3, 1) := by decide +kernel
theorem dL_law_1037 : decode code 1037 = .ok (.iconst 2, 1) := by decide +kernel
theorem dL_law_1038 : decode code 1038 = .ok (.iadd, 1) := by decide +kernel
theorem dL_law_1039 : decode code 1039 = .ok (.iaload, 1) := by decide +kernel
theorem dL_law_1040 : decode code 1040 = .ok (.invokevirtual 126, 3) := by decide +kernel
theorem dL_law_1043 : decode code 1043 = .ok (.aload_n 2, 1) := by decide +kernel
theorem dL_law_1044 : decode code 1044 = .ok (.aload_n 0, 1) := by decide +kernel
theorem dL_law_1045 : decode code 1045 = .ok (.iload_n 3, 1) := by decide +kernel
theorem dL_law_1046 : decode code 1046 = .ok (.iconst 1, 1) := by decide +kernel
theorem dL_law_1047 : decode code 1047 = .ok (.iadd, 1) := by decide +kernel
theorem dL_law_1048 : decode code 1048 = .ok (.iaload, 1) := by decide +kernel
theorem dL_law_1049 : decode code 1049 = .ok (.aload_n 0, 1) := by decide +kernel
theorem dL_law_1050 : decode code 1050 = .ok (.iload_n 3, 1) := by decide +kernel
theorem dL_law_1051 : decode code 1051 = .ok (.iconst 2, 1) := by decide +kernel
theorem dL_law_1052 : decode code 1052 = .ok (.iadd, 1) := by decide +kernel
theorem dL_law_1053 : decode code 1053 = .ok (.iaload, 1) := by decide +kernel
theorem dL_law_1054 : decode code 1054 = .ok (.invokevirtual 129, 3) := by decide +kernel
theorem dL_law_1057 : decode code 1057 = .ok (.if_icmp .eq 557, 3) := by decide +kernel
theorem dL_law_1060 : decode code 1060 = .ok (.iconst 0, 1) := by decide +kernel
theorem dL_law_1061 : decode code 1061 = .ok (.ireturn, 1) := by decide +kernel
theorem dL_law_1062 : decode code 1062 = .ok (.aload_n 1, 1) := by decide +kernel
theorem dL_law_1063 : decode code 1063 = .ok (.aload_n 0, 1) := by decide +kernel
theorem dL_law_1064 : decode code 1064 = .ok (.iload_n 3, 1) := by decide +kernel
theorem dL_law_1065 : decode code 1065 = .ok (.iconst 1, 1) := by decide +kernel
theorem dL_law_1066 : decode code 1066 = .ok (.iadd, 1) := by decide +kernel
theorem dL_law_1067 : decode code 1067 = .ok (.iaload, 1) := by decide +kernel
theorem dL_law_1068 : decode code 1068 = .ok (.aload_n 0, 1) := by decide +kernel
theorem dL_law_1069 : decode code 1069 = .ok (.iload_n 3, 1) := by decide +kernel
theorem dL_law_1070 : decode code 1070 = .ok (.iconst 2, 1) := by decide +kernel
theorem dL_law_1071 : decode code 1071 = .ok (.iadd, 1) := by decide +kernel
theorem dL_law_1072 : decode code 1072 = .ok (.iaload, 1) := by decide +kernel
theorem dL_law_1073 : decode code 1073 = .ok (.invokevirtual 130, 3) := by decide +kernel
theorem dL_law_1076 : decode code 1076 = .ok (.aload_n 2, 1) := by decide +kernel
theorem dL_law_1077 : decode code 1077 = .ok (.aload_n 0, 1) := by decide +kernel
theorem dL_law_1078 : decode code 1078 = .ok (.iload_n 3, 1) := by decide +kernel
theorem dL_law_1079 : decode code 1079 = .ok (.iconst 1, 1) := by decide +kernel
theorem dL_law_1080 : decode code 1080 = .ok (.iadd, 1) := by decide +kernel
theorem dL_law_1081 : decode code 1081 = .ok (.iaload, 1) := by decide +kernel
theorem dL_law_1082 : decode code 1082 = .ok (.aload_n 0, 1) := by decide +kernel
theorem dL_law_1083 : decode code 1083 = .ok (.iload_n 3, 1) := by decide +kernel
theorem dL_law_1084 : decode code 1084 = .ok (.iconst 2, 1) := by decide +kernel
theorem dL_law_1085 : decode code 1085 = .ok (.iadd, 1) := by decide +kernel
theorem dL_law_1086 : decode code 1086 = .ok (.iaload, 1) := by decide +kernel
theorem dL_law_1087 : decode code 1087 = .ok (.invokevirtual 133, 3) := by decide +kernel
theorem dL_law_1090 : decode code 1090 = .ok (.if_icmp .eq 524, 3) := by decide +kernel
theorem dL_law_1093 : decode code 1093 = .ok (.iconst 0, 1) := by decide +kernel
theorem dL_law_1094 : decode code 1094 = .ok (.ireturn, 1) := by decide +kernel
theorem dL_law_1095 : decode code 1095 = .ok (.aload_n 1, 1) := by decide +kernel
theorem dL_law_1096 : decode code 1096 = .ok (.aload_n 0, 1) := by decide +kernel
theorem dL_law_1097 : decode code 1097 = .ok (.iload_n 3, 1) := by decide +kernel
theorem dL_law_1098 : decode code 1098 = .ok (.iconst 1, 1) := by decide +kernel
theorem dL_law_1099 : decode code 1099 = .ok (.iadd, 1) := by decide +kernel
theorem dL_law_1100 : decode code 1100 = .ok (.iaload, 1) := by decide +kernel
theorem dL_law_1101 : decode code 1101 = .ok (.aload_n 0, 1) := by decide +kernel
theorem dL_law_1102 : decode code 1102 = .ok (.iload_n 3, 1) := by decide +kernel
theorem dL_law_1103 : decode code 1103 = .ok (.iconst 2, 1) := by decide +kernel
theorem dL_law_1104 : decode code 1104 = .ok (.iadd, 1) := by decide +kernel
theorem dL_law_1105 : decode code 1105 = .ok (.iaload, 1) := by decide +kernel
theorem dL_law_1106 : decode code 1106 = .ok (.aload_n 0, 1) := by decide +kernel
theorem dL_law_1107 : decode code 1107 = .ok (.iload_n 3, 1) := by decide +kernel
theorem dL_law_1108 : decode code 1108 = .ok (.iconst 3, 1) := by decide +kernel
theorem dL_law_1109 : decode code 1109 = .ok (.iadd, 1) := by decide +kernel
theorem dL_law_1110 : decode code 1110 = .ok (.iaload, 1) := by decide +kernel
theorem dL_law_1111 : decode code 1111 = .ok (.invokevirtual 134, 3) := by decide +kernel
theorem dL_law_1114 : decode code 1114 = .ok (.aload_n 2, 1) := by decide +kernel
theorem dL_law_1115 : decode code 1115 = .ok (.aload_n 0, 1) := by decide +kernel
theorem dL_law_1116 : decode code 1116 = .ok (.iload_n 3, 1) := by decide +kernel
theorem dL_law_1117 : decode code 1117 = .ok (.iconst 1, 1) := by decide +kernel
theorem dL_law_1118 : decode code 1118 = .ok (.iadd, 1) := by decide +kernel
theorem dL_law_1119 : decode code 1119 = .ok (.iaload, 1) := by decide +kernel
theorem dL_law_1120 : decode code 1120 = .ok (.aload_n 0, 1) := by decide +kernel
theorem dL_law_1121 : decode code 1121 = .ok (.iload_n 3, 1) := by decide +kernel
theorem dL_law_1122 : decode code 1122 = .ok (.iconst 2, 1) := by decide +kernel
theorem dL_law_1123 : decode code 1123 = .ok (.iadd, 1) := by decide +kernel
theorem dL_law_1124 : decode code 1124 = .ok (.iaload, 1) := by decide +kernel
theorem dL_law_1125 : decode code 1125 = .ok (.aload_n 0, 1) := by decide +kernel
theorem dL_law_1126 : decode code 1126 = .ok (.iload_n 3, 1) := by decide +kernel
theorem dL_law_1127 : decode code 1127 = .ok (.iconst 3, 1) := by decide +kernel
theorem dL_law_1128 : decode code 1128 = .ok (.iadd, 1) := by decide +kernel
theorem dL_law_1129 : decode code 1129 = .ok (.iaload, 1) := by decide +kernel
theorem dL_law_1130 : decode code 1130 = .ok (.invokevirtual 137, 3) := by decide +kernel
theorem dL_law_1133 : decode code 1133 = .ok (.if_icmp .eq 481, 3) := by decide +kernel
theorem dL_law_1136 : decode code 1136 = .ok (.iconst 0, 1) := by decide +kernel
theorem dL_law_1137 : decode code 1137 = .ok (.ireturn, 1) := by decide +kernel
theorem dL_law_1138 : decode code 1138 = .ok (.aload_n 1, 1) := by decide +kernel
theorem dL_law_1139 : decode code 1139 = .ok (.aload_n 0, 1) := by decide +kernel
theorem dL_law_1140 : decode code 1140 = .ok (.iload_n 3, 1) := by decide +kernel
theorem dL_law_1141 : decode code 1141 = .ok (.iconst 1, 1) := by decide +kernel
theorem dL_law_1142 : decode code 1142 = .ok (.iadd, 1) := by decide +kernel
theorem dL_law_1143 : decode code 1143 = .ok (.iaload, 1) := by decide +kernel
theorem dL_law_1144 : decode code 1144 = .ok (.aload_n 0, 1) := by decide +kernel
theorem dL_law_1145 : decode code 1145 = .ok (.iload_n 3, 1) := by decide +kernel
theorem dL_law_1146 : decode code 1146 = .ok (.iconst 2, 1) := by decide +kernel
theorem dL_law_1147 : decode code 1147 = .ok (.iadd, 1) := by decide +kernel
theorem dL_law_1148 : decode code 1148 = .ok (.iaload, 1) := by decide +kernel
theorem dL_law_1149 : decode code 1149 = .ok (.aload_n 0, 1) := by decide +kernel
theorem dL_law_1150 : decode code 1150 = .ok (.iload_n 3, 1) := by decide +kernel
theorem dL_law_1151 : decode code 1151 = .ok (.iconst 3, 1) := by decide +kernel
theorem dL_law_1152 : decode code 1152 = .ok (.iadd, 1) := by decide +kernel
theorem dL_law_1153 : decode code 1153 = .ok (.iaload, 1) := by decide +kernel
theorem dL_law_1154 : decode code 1154 = .ok (.invokevirtual 138, 3) := by decide +kernel
theorem dL_law_1157 : decode code 1157 = .ok (.aload_n 2, 1) := by decide +kernel
theorem dL_law_1158 : decode code 1158 = .ok (.aload_n 0, 1) := by decide +kernel
theorem dL_law_1159 : decode code 1159 = .ok (.iload_n 3, 1) := by decide +kernel
theorem dL_law_1160 : decode code 1160 = .ok (.iconst 1, 1) := by decide +kernel
theorem dL_law_1161 : decode code 1161 = .ok (.iadd, 1) := by decide +kernel
theorem dL_law_1162 : decode code 1162 = .ok (.iaload, 1) := by decide +kernel
theorem dL_law_1163 : decode code 1163 = .ok (.aload_n 0, 1) := by decide +kernel
theorem dL_law_1164 : decode code 1164 = .ok (.iload_n 3, 1) := by decide +kernel
theorem dL_law_1165 : decode code 1165 = .ok (.iconst 2, 1) := by decide +kernel
theorem dL_law_1166 : decode code 1166 = .ok (.iadd, 1) := by decide +kernel
theorem dL_law_1167 : decode code 1167 = .ok (.iaload, 1) := by decide +kernel
theorem dL_law_1168 : decode code 1168 = .ok (.aload_n 0, 1) := by decide +kernel
theorem dL_law_1169 : decode code 1169 = .ok (.iload_n 3, 1) := by decide +kernel
theorem dL_law_1170 : decode code 1170 = .ok (.iconst 3, 1) := by decide +kernel
theorem dL_law_1171 : decode code 1171 = .ok (.iadd, 1) := by decide +kernel
theorem dL_law_1172 : decode code 1172 = .ok (.iaload, 1) := by decide +kernel
theorem dL_law_1173 : decode code 1173 = .ok (.invokevirtual 141, 3) := by decide +kernel
theorem dL_law_1176 : decode code 1176 = .ok (.if_icmp .eq 438, 3) := by decide +kernel
theorem dL_law_1179 : decode code 1179 = .ok (.iconst 0, 1) := by decide +kernel
theorem dL_law_1180 : decode code 1180 = .ok (.ireturn, 1) := by decide +kernel
theorem dL_law_1181 : decode code 1181 = .ok (.aload_n 1, 1) := by decide +kernel
theorem dL_law_1182 : decode code 1182 = .ok (.aload_n 0, 1) := by decide +kernel
theorem dL_law_1183 : decode code 1183 = .ok (.iload_n 3, 1) := by decide +kernel
theorem dL_law_1184 : decode code 1184 = .ok (.iconst 1, 1) := by decide +kernel
theorem dL_law_1185 : decode code 1185 = .ok (.iadd, 1) := by decide +kernel
theorem dL_law_1186 : decode code 1186 = .ok (.iaload, 1) := by decide +kernel
theorem dL_law_1187 : decode code 1187 = .ok (.aload_n 0, 1) := by decide +kernel
theorem dL_law_1188 : decode code 1188 = .ok (.iload_n 3, 1) := by decide +kernel
theorem dL_law_1189 : decode code 1189 = .ok (.iconst 2, 1) := by decide +kernel
theorem dL_law_1190 : decode code 1190 = .ok (.iadd, 1) := by decide +kernel
theorem dL_law_1191 : decode code 1191 = .ok (.iaload, 1) := by decide +kernel
theorem dL_law_1192 : decode code 1192 = .ok (.aload_n 0, 1) := by decide +kernel
theorem dL_law_1193 : decode code 1193 = .ok (.iload_n 3, 1) := by decide +kernel
theorem dL_law_1194 : decode code 1194 = .ok (.iconst 3, 1) := by decide +kernel
theorem dL_law_1195 : decode code 1195 = .ok (.iadd, 1) := by decide +kernel
theorem dL_law_1196 : decode code 1196 = .ok (.iaload, 1) := by decide +kernel
theorem dL_law_1197 : decode code 1197 = .ok (.invokevirtual 142, 3) := by decide +kernel
theorem dL_law_1200 : decode code 1200 = .ok (.aload_n 2, 1) := by decide +kernel
theorem dL_law_1201 : decode code 1201 = .ok (.aload_n 0, 1) := by decide +kernel
theorem dL_law_1202 : decode code 1202 = .ok (.iload_n 3, 1) := by decide +kernel
theorem dL_law_1203 : decode code 1203 = .ok (.iconst 1, 1) := by decide +kernel
theorem dL_law_1204 : decode code 1204 = .ok (.iadd, 1) := by decide +kernel
theorem dL_law_1205 : decode code 1205 = .ok (.iaload, 1) := by decide +kernel
theorem dL_law_1206 : decode code 1206 = .ok (.aload_n 0, 1) := by decide +kernel
theorem dL_law_1207 : decode code 1207 = .ok (.iload_n 3, 1) := by decide +kernel
theorem dL_law_1208 : decode code 1208 = .ok (.iconst 2, 1) := by decide +kernel
theorem dL_law_1209 : decode code 1209 = .ok (.iadd, 1) := by decide +kernel
theorem dL_law_1210 : decode code 1210 = .ok (.iaload, 1) := by decide +kernel
theorem dL_law_1211 : decode code 1211 = .ok (.aload_n 0, 1) := by decide +kernel
theorem dL_law_1212 : decode code 1212 = .ok (.iload_n 3, 1) := by decide +kernel
theorem dL_law_1213 : decode code 1213 = .ok (.iconst 3, 1) := by decide +kernel
theorem dL_law_1214 : decode code 1214 = .ok (.iadd, 1) := by decide +kernel
theorem dL_law_1215 : decode code 1215 = .ok (.iaload, 1) := by decide +kernel
theorem dL_law_1216 : decode code 1216 = .ok (.invokevirtual 145, 3) := by decide +kernel
theorem dL_law_1219 : decode code 1219 = .ok (.if_icmp .eq 395, 3) := by decide +kernel
theorem dL_law_1222 : decode code 1222 = .ok (.iconst 0, 1) := by decide +kernel
theorem dL_law_1223 : decode code 1223 = .ok (.ireturn, 1) := by decide +kernel
theorem dL_law_1224 : decode code 1224 = .ok (.aload_n 1, 1) := by decide +kernel
theorem dL_law_1225 : decode code 1225 = .ok (.aload_n 0, 1) := by decide +kernel
theorem dL_law_1226 : decode code 1226 = .ok (.iload_n 3, 1) := by decide +kernel
theorem dL_law_1227 : decode code 1227 = .ok (.iconst 1, 1) := by decide +kernel
theorem dL_law_1228 : decode code 1228 = .ok (.iadd, 1) := by decide +kernel
theorem dL_law_1229 : decode code 1229 = .ok (.iaload, 1) := by decide +kernel
theorem dL_law_1230 : decode code 1230 = .ok (.invokevirtual 146, 3) := by decide +kernel
theorem dL_law_1233 : decode code 1233 = .ok (.aload_n 2, 1) := by decide +kernel
theorem dL_law_1234 : decode code 1234 = .ok (.aload_n 0, 1) := by decide +kernel
theorem dL_law_1235 : decode code 1235 = .ok (.iload_n 3, 1) := by decide +kernel
theorem dL_law_1236 : decode code 1236 = .ok (.iconst 1, 1) := by decide +kernel
theorem dL_law_1237 : decode code 1237 = .ok (.iadd, 1) := by decide +kernel
theorem dL_law_1238 : decode code 1238 = .ok (.iaload, 1) := by decide +kernel
theorem dL_law_1239 : decode code 1239 = .ok (.invokevirtual 149, 3) := by decide +kernel
theorem dL_law_1242 : decode code 1242 = .ok (.if_icmp .eq 372, 3) := by decide +kernel
theorem dL_law_1245 : decode code 1245 = .ok (.iconst 0, 1) := by decide +kernel
theorem dL_law_1246 : decode code 1246 = .ok (.ireturn, 1) := by decide +kernel
theorem dL_law_1247 : decode code 1247 = .ok (.aload_n 1, 1) := by decide +kernel
theorem dL_law_1248 : decode code 1248 = .ok (.aload_n 0, 1) := by decide +kernel
theorem dL_law_1249 : decode code 1249 = .ok (.iload_n 3, 1) := by decide +kernel
theorem dL_law_1250 : decode code 1250 = .ok (.iconst 1, 1) := by decide +kernel
theorem dL_law_1251 : decode code 1251 = .ok (.iadd, 1) := by decide +kernel
theorem dL_law_1252 : decode code 1252 = .ok (.iaload, 1) := by decide +kernel
theorem dL_law_1253 : decode code 1253 = .ok (.aload_n 0, 1) := by decide +kernel
theorem dL_law_1254 : decode code 1254 = .ok (.iload_n 3, 1) := by decide +kernel
theorem dL_law_1255 : decode code 1255 = .ok (.iconst 2, 1) := by decide +kernel
theorem dL_law_1256 : decode code 1256 = .ok (.iadd, 1) := by decide +kernel
theorem dL_law_1257 : decode code 1257 = .ok (.iaload, 1) := by decide +kernel
theorem dL_law_1258 : decode code 1258 = .ok (.invokevirtual 150, 3) := by decide +kernel
theorem dL_law_1261 : decode code 1261 = .ok (.aload_n 2, 1) := by decide +kernel
theorem dL_law_1262 : decode code 1262 = .ok (.aload_n 0, 1) := by decide +kernel
theorem dL_law_1263 : decode code 1263 = .ok (.iload_n 3, 1) := by decide +kernel
theorem dL_law_1264 : decode code 1264 = .ok (.iconst 1, 1) := by decide +kernel
theorem dL_law_1265 : decode code 1265 = .ok (.iadd, 1) := by decide +kernel
theorem dL_law_1266 : decode code 1266 = .ok (.iaload, 1) := by decide +kernel
theorem dL_law_1267 : decode code 1267 = .ok (.aload_n 0, 1) := by decide +kernel
theorem dL_law_1268 : decode code 1268 = .ok (.iload_n 3, 1) := by decide +kernel
theorem dL_law_1269 : decode code 1269 = .ok (.iconst 2, 1) := by decide +kernel
theorem dL_law_1270 : decode code 1270 = .ok (.iadd, 1) := by decide +kernel
theorem dL_law_1271 : decode code 1271 = .ok (.iaload, 1) := by decide +kernel
theorem dL_law_1272 : decode code 1272 = .ok (.invokevirtual 153, 3) := by decide +kernel
theorem dL_law_1275 : decode code 1275 = .ok (.if_icmp .eq 339, 3) := by decide +kernel
theorem dL_law_1278 : decode code 1278 = .ok (.iconst 0, 1) := by decide +kernel
theorem dL_law_1279 : decode code 1279 = .ok (.ireturn, 1) := by decide +kernel
theorem dL_law_1280 : decode code 1280 = .ok (.aload_n 1, 1) := by decide +kernel
theorem dL_law_1281 : decode code 1281 = .ok (.aload_n 0, 1) := by decide +kernel
theorem dL_law_1282 : decode code 1282 = .ok (.iload_n 3, 1) := by decide +kernel
theorem dL_law_1283 : decode code 1283 = .ok (.iconst 1, 1) := by decide +kernel
theorem dL_law_1284 : decode code 1284 = .ok (.iadd, 1) := by decide +kernel
theorem dL_law_1285 : decode code 1285 = .ok (.iaload, 1) := by decide +kernel
theorem dL_law_1286 : decode code 1286 = .ok (.aload_n 0, 1) := by decide +kernel
theorem dL_law_1287 : decode code 1287 = .ok (.iload_n 3, 1) := by decide +kernel
theorem dL_law_1288 : decode code 1288 = .ok (.iconst 2, 1) := by decide +kernel
theorem dL_law_1289 : decode code 1289 = .ok (.iadd, 1) := by decide +kernel
theorem dL_law_1290 : decode code 1290 = .ok (.iaload, 1) := by decide +kernel
theorem dL_law_1291 : decode code 1291 = .ok (.invokevirtual 154, 3) := by decide +kernel
theorem dL_law_1294 : decode code 1294 = .ok (.aload_n 2, 1) := by decide +kernel
theorem dL_law_1295 : decode code 1295 = .ok (.aload_n 0, 1) := by decide +kernel
theorem dL_law_1296 : decode code 1296 = .ok (.iload_n 3, 1) := by decide +kernel
theorem dL_law_1297 : decode code 1297 = .ok (.iconst 1, 1) := by decide +kernel
theorem dL_law_1298 : decode code 1298 = .ok (.iadd, 1) := by decide +kernel
theorem dL_law_1299 : decode code 1299 = .ok (.iaload, 1) := by decide +kernel
theorem dL_law_1300 : decode code 1300 = .ok (.aload_n 0, 1) := by decide +kernel
theorem dL_law_1301 : decode code 1301 = .ok (.iload_n 3, 1) := by decide +kernel
theorem dL_law_1302 : decode code 1302 = .ok (.iconst 2, 1) := by decide +kernel
theorem dL_law_1303 : decode code 1303 = .ok (.iadd, 1) := by decide +kernel
theorem dL_law_1304 : decode code 1304 = .ok (.iaload, 1) := by decide +kernel
theorem dL_law_1305 : decode code 1305 = .ok (.invokevirtual 157, 3) := by decide +kernel
theorem dL_law_1308 : decode code 1308 = .ok (.if_icmp .eq 306, 3) := by decide +kernel
theorem dL_law_1311 : decode code 1311 = .ok (.iconst 0, 1) := by decide +kernel
theorem dL_law_1312 : decode code 1312 = .ok (.ireturn, 1) := by decide +kernel
theorem dL_law_1313 : decode code 1313 = .ok (.aload_n 1, 1) := by decide +kernel
theorem dL_law_1314 : decode code 1314 = .ok (.aload_n 0, 1) := by decide +kernel
theorem dL_law_1315 : decode code 1315 = .ok (.iload_n 3, 1) := by decide +kernel
theorem dL_law_1316 : decode code 1316 = .ok (.iconst 1, 1) := by decide +kernel
theorem dL_law_1317 : decode code 1317 = .ok (.iadd, 1) := by decide +kernel
theorem dL_law_1318 : decode code 1318 = .ok (.iaload, 1) := by decide +kernel
theorem dL_law_1319 : decode code 1319 = .ok (.aload_n 0, 1) := by decide +kernel
theorem dL_law_1320 : decode code 1320 = .ok (.iload_n 3, 1) := by decide +kernel
theorem dL_law_1321 : decode code 1321 = .ok (.iconst 2, 1) := by decide +kernel
theorem dL_law_1322 : decode code 1322 = .ok (.iadd, 1) := by decide +kernel
theorem dL_law_1323 : decode code 1323 = .ok (.iaload, 1) := by decide +kernel
theorem dL_law_1324 : decode code 1324 = .ok (.invokevirtual 158, 3) := by decide +kernel
theorem dL_law_1327 : decode code 1327 = .ok (.aload_n 2, 1) := by decide +kernel
theorem dL_law_1328 : decode code 1328 = .ok (.aload_n 0, 1) := by decide +kernel
theorem dL_law_1329 : decode code 1329 = .ok (.iload_n 3, 1) := by decide +kernel
theorem dL_law_1330 : decode code 1330 = .ok (.iconst 1, 1) := by decide +kernel
theorem dL_law_1331 : decode code 1331 = .ok (.iadd, 1) := by decide +kernel
theorem dL_law_1332 : decode code 1332 = .ok (.iaload, 1) := by decide +kernel
theorem dL_law_1333 : decode code 1333 = .ok (.aload_n 0, 1) := by decide +kernel
theorem dL_law_1334 : decode code 1334 = .ok (.iload_n 3, 1) := by decide +kernel
theorem dL_law_1335 : decode code 1335 = .ok (.iconst 2, 1) := by decide +kernel
theorem dL_law_1336 : decode code 1336 = .ok (.iadd, 1) := by decide +kernel
theorem dL_law_1337 : decode code 1337 = .ok (.iaload, 1) := by decide +kernel
theorem dL_law_1338 : decode code 1338 = .ok (.invokevirtual 161, 3) := by decide +kernel
theorem dL_law_1341 : decode code 1341 = .ok (.if_icmp .eq 273, 3) := by decide +kernel
theorem dL_law_1344 : decode code 1344 = .ok (.iconst 0, 1) := by decide +kernel
theorem dL_law_1345 : decode code 1345 = .ok (.ireturn, 1) := by decide +kernel
theorem dL_law_1346 : decode code 1346 = .ok (.aload_n 1, 1) := by decide +kernel
theorem dL_law_1347 : decode code 1347 = .ok (.aload_n 0, 1) := by decide +kernel
theorem dL_law_1348 : decode code 1348 = .ok (.iload_n 3, 1) := by decide +kernel
theorem dL_law_1349 : decode code 1349 = .ok (.iconst 1, 1) := by decide +kernel
theorem dL_law_1350 : decode code 1350 = .ok (.iadd, 1) := by decide +kernel
theorem dL_law_1351 : decode code 1351 = .ok (.iaload, 1) := by decide +kernel
theorem dL_law_1352 : decode code 1352 = .ok (.aload_n 0, 1) := by decide +kernel
theorem dL_law_1353 : decode code 1353 = .ok (.iload_n 3, 1) := by decide +kernel
theorem dL_law_1354 : decode code 1354 = .ok (.iconst 2, 1) := by decide +kernel
theorem dL_law_1355 : decode code 1355 = .ok (.iadd, 1) := by decide +kernel
theorem dL_law_1356 : decode code 1356 = .ok (.iaload, 1) := by decide +kernel
theorem dL_law_1357 : decode code 1357 = .ok (.invokevirtual 162, 3) := by decide +kernel
theorem dL_law_1360 : decode code 1360 = .ok (.aload_n 2, 1) := by decide +kernel
theorem dL_law_1361 : decode code 1361 = .ok (.aload_n 0, 1) := by decide +kernel
theorem dL_law_1362 : decode code 1362 = .ok (.iload_n 3, 1) := by decide +kernel
theorem dL_law_1363 : decode code 1363 = .ok (.iconst 1, 1) := by decide +kernel
theorem dL_law_1364 : decode code 1364 = .ok (.iadd, 1) := by decide +kernel
theorem dL_law_1365 : decode code 1365 = .ok (.iaload, 1) := by decide +kernel
theorem dL_law_1366 : decode code 1366 = .ok (.aload_n 0, 1) := by decide +kernel
theorem dL_law_1367 : decode code 1367 = .ok (.iload_n 3, 1) := by decide +kernel
theorem dL_law_1368 : decode code 1368 = .ok (.iconst 2, 1) := by decide +kernel
theorem dL_law_1369 : decode code 1369 = .ok (.iadd, 1) := by decide +kernel
theorem dL_law_1370 : decode code 1370 = .ok (.iaload, 1) := by decide +kernel
theorem dL_law_1371 : decode code 1371 = .ok (.invokevirtual 165, 3) := by decide +kernel
theorem dL_law_1374 : decode code 1374 = .ok (.if_icmp .eq 240, 3) := by decide +kernel
theorem dL_law_1377 : decode code 1377 = .ok (.iconst 0, 1) := by decide +kernel
theorem dL_law_1378 : decode code 1378 = .ok (.ireturn, 1) := by decide +kernel
theorem dL_law_1379 : decode code 1379 = .ok (.aload_n 1, 1) := by decide +kernel
theorem dL_law_1380 : decode code 1380 = .ok (.invokevirtual 166, 3) := by decide +kernel
theorem dL_law_1383 : decode code 1383 = .ok (.aload_n 2, 1) := by decide +kernel
theorem dL_law_1384 : decode code 1384 = .ok (.invokevirtual 169, 3) := by decide +kernel
theorem dL_law_1387 : decode code 1387 = .ok (.if_icmp .eq 227, 3) := by decide +kernel
theorem dL_law_1390 : decode code 1390 = .ok (.iconst 0, 1) := by decide +kernel
theorem dL_law_1391 : decode code 1391 = .ok (.ireturn, 1) := by decide +kernel
theorem dL_law_1392 : decode code 1392 = .ok (.aload_n 1, 1) := by decide +kernel
theorem dL_law_1393 : decode code 1393 = .ok (.invokevirtual 170, 3) := by decide +kernel
theorem dL_law_1396 : decode code 1396 = .ok (.aload_n 2, 1) := by decide +kernel
theorem dL_law_1397 : decode code 1397 = .ok (.invokevirtual 173, 3) := by decide +kernel
theorem dL_law_1400 : decode code 1400 = .ok (.if_icmp .eq 214, 3) := by decide +kernel
theorem dL_law_1403 : decode code 1403 = .ok (.iconst 0, 1) := by decide +kernel
theorem dL_law_1404 : decode code 1404 = .ok (.ireturn, 1) := by decide +kernel
theorem dL_law_1405 : decode code 1405 = .ok (.aload_n 1, 1) := by decide +kernel
theorem dL_law_1406 : decode code 1406 = .ok (.aload_n 0, 1) := by decide +kernel
theorem dL_law_1407 : decode code 1407 = .ok (.iload_n 3, 1) := by decide +kernel
theorem dL_law_1408 : decode code 1408 = .ok (.iconst 1, 1) := by decide +kernel
theorem dL_law_1409 : decode code 1409 = .ok (.iadd, 1) := by decide +kernel
theorem dL_law_1410 : decode code 1410 = .ok (.iaload, 1) := by decide +kernel
theorem dL_law_1411 : decode code 1411 = .ok (.aload_n 0, 1) := by decide +kernel
theorem dL_law_1412 : decode code 1412 = .ok (.iload_n 3, 1) := by decide +kernel
theorem dL_law_1413 : decode code 1413 = .ok (.iconst 2, 1) := by decide +kernel
theorem dL_law_1414 : decode code 1414 = .ok (.iadd, 1) := by decide +kernel
theorem dL_law_1415 : decode code 1415 = .ok (.iaload, 1) := by decide +kernel
theorem dL_law_1416 : decode code 1416 = .ok (.aload_n 0, 1) := by decide +kernel
theorem dL_law_1417 : decode code 1417 = .ok (.iload_n 3, 1) := by decide +kernel
theorem dL_law_1418 : decode code 1418 = .ok (.iconst 3, 1) := by decide +kernel
theorem dL_law_1419 : decode code 1419 = .ok (.iadd, 1) := by decide +kernel
theorem dL_law_1420 : decode code 1420 = .ok (.iaload, 1) := by decide +kernel
theorem dL_law_1421 : decode code 1421 = .ok (.invokevirtual 174, 3) := by decide +kernel
theorem dL_law_1424 : decode code 1424 = .ok (.aload_n 2, 1) := by decide +kernel
theorem dL_law_1425 : decode code 1425 = .ok (.aload_n 0, 1) := by decide +kernel
theorem dL_law_1426 : decode code 1426 = .ok (.iload_n 3, 1) := by decide +kernel
theorem dL_law_1427 : decode code 1427 = .ok (.iconst 1, 1) := by decide +kernel
theorem dL_law_1428 : decode code 1428 = .ok (.iadd, 1) := by decide +kernel
theorem dL_law_1429 : decode code 1429 = .ok (.iaload, 1) := by decide +kernel
theorem dL_law_1430 : decode code 1430 = .ok (.aload_n 0, 1) := by decide +kernel
theorem dL_law_1431 : decode code 1431 = .ok (.iload_n 3, 1) := by decide +kernel
theorem dL_law_1432 : decode code 1432 = .ok (.iconst 2, 1) := by decide +kernel
theorem dL_law_1433 : decode code 1433 = .ok (.iadd, 1) := by decide +kernel
theorem dL_law_1434 : decode code 1434 = .ok (.iaload, 1) := by decide +kernel
theorem dL_law_1435 : decode code 1435 = .ok (.aload_n 0, 1) := by decide +kernel
theorem dL_law_1436 : decode code 1436 = .ok (.iload_n 3, 1) := by decide +kernel
theorem dL_law_1437 : decode code 1437 = .ok (.iconst 3, 1) := by decide +kernel
theorem dL_law_1438 : decode code 1438 = .ok (.iadd, 1) := by decide +kernel
theorem dL_law_1439 : decode code 1439 = .ok (.iaload, 1) := by decide +kernel
theorem dL_law_1440 : decode code 1440 = .ok (.invokevirtual 177, 3) := by decide +kernel
theorem dL_law_1443 : decode code 1443 = .ok (.if_icmp .eq 171, 3) := by decide +kernel
theorem dL_law_1446 : decode code 1446 = .ok (.iconst 0, 1) := by decide +kernel
theorem dL_law_1447 : decode code 1447 = .ok (.ireturn, 1) := by decide +kernel
theorem dL_law_1448 : decode code 1448 = .ok (.aload_n 1, 1) := by decide +kernel
theorem dL_law_1449 : decode code 1449 = .ok (.aload_n 0, 1) := by decide +kernel
theorem dL_law_1450 : decode code 1450 = .ok (.iload_n 3, 1) := by decide +kernel
theorem dL_law_1451 : decode code 1451 = .ok (.iconst 1, 1) := by decide +kernel
theorem dL_law_1452 : decode code 1452 = .ok (.iadd, 1) := by decide +kernel
theorem dL_law_1453 : decode code 1453 = .ok (.iaload, 1) := by decide +kernel
theorem dL_law_1454 : decode code 1454 = .ok (.aload_n 0, 1) := by decide +kernel
theorem dL_law_1455 : decode code 1455 = .ok (.iload_n 3, 1) := by decide +kernel
theorem dL_law_1456 : decode code 1456 = .ok (.iconst 2, 1) := by decide +kernel
theorem dL_law_1457 : decode code 1457 = .ok (.iadd, 1) := by decide +kernel
theorem dL_law_1458 : decode code 1458 = .ok (.iaload, 1) := by decide +kernel
theorem dL_law_1459 : decode code 1459 = .ok (.aload_n 0, 1) := by decide +kernel
theorem dL_law_1460 : decode code 1460 = .ok (.iload_n 3, 1) := by decide +kernel
theorem dL_law_1461 : decode code 1461 = .ok (.iconst 3, 1) := by decide +kernel
theorem dL_law_1462 : decode code 1462 = .ok (.iadd, 1) := by decide +kernel
theorem dL_law_1463 : decode code 1463 = .ok (.iaload, 1) := by decide +kernel
theorem dL_law_1464 : decode code 1464 = .ok (.i2l, 1) := by decide +kernel
theorem dL_law_1465 : decode code 1465 = .ok (.bipush 32, 2) := by decide +kernel
theorem dL_law_1467 : decode code 1467 = .ok (.lshl, 1) := by decide +kernel
theorem dL_law_1468 : decode code 1468 = .ok (.aload_n 0, 1) := by decide +kernel
theorem dL_law_1469 : decode code 1469 = .ok (.iload_n 3, 1) := by decide +kernel
theorem dL_law_1470 : decode code 1470 = .ok (.iconst 4, 1) := by decide +kernel
theorem dL_law_1471 : decode code 1471 = .ok (.iadd, 1) := by decide +kernel
theorem dL_law_1472 : decode code 1472 = .ok (.iaload, 1) := by decide +kernel
theorem dL_law_1473 : decode code 1473 = .ok (.i2l, 1) := by decide +kernel
theorem dL_law_1474 : decode code 1474 = .ok (.ldc2_w 178, 3) := by decide +kernel
theorem dL_law_1477 : decode code 1477 = .ok (.land, 1) := by decide +kernel
theorem dL_law_1478 : decode code 1478 = .ok (.lor, 1) := by decide +kernel
theorem dL_law_1479 : decode code 1479 = .ok (.invokevirtual 180, 3) := by decide +kernel
theorem dL_law_1482 : decode code 1482 = .ok (.aload_n 2, 1) := by decide +kernel
theorem dL_law_1483 : decode code 1483 = .ok (.aload_n 0, 1) := by decide +kernel
theorem dL_law_1484 : decode code 1484 = .ok (.iload_n 3, 1) := by decide +kernel
theorem dL_law_1485 : decode code 1485 = .ok (.iconst 1, 1) := by decide +kernel
theorem dL_law_1486 : decode code 1486 = .ok (.iadd, 1) := by decide +kernel
theorem dL_law_1487 : decode code 1487 = .ok (.iaload, 1) := by decide +kernel
theorem dL_law_1488 : decode code 1488 = .ok (.aload_n 0, 1) := by decide +kernel
theorem dL_law_1489 : decode code 1489 = .ok (.iload_n 3, 1) := by decide +kernel
theorem dL_law_1490 : decode code 1490 = .ok (.iconst 2, 1) := by decide +kernel
theorem dL_law_1491 : decode code 1491 = .ok (.iadd, 1) := by decide +kernel
theorem dL_law_1492 : decode code 1492 = .ok (.iaload, 1) := by decide +kernel
theorem dL_law_1493 : decode code 1493 = .ok (.aload_n 0, 1) := by decide +kernel
theorem dL_law_1494 : decode code 1494 = .ok (.iload_n 3, 1) := by decide +kernel
theorem dL_law_1495 : decode code 1495 = .ok (.iconst 3, 1) := by decide +kernel
theorem dL_law_1496 : decode code 1496 = .ok (.iadd, 1) := by decide +kernel
theorem dL_law_1497 : decode code 1497 = .ok (.iaload, 1) := by decide +kernel
theorem dL_law_1498 : decode code 1498 = .ok (.i2l, 1) := by decide +kernel
theorem dL_law_1499 : decode code 1499 = .ok (.bipush 32, 2) := by decide +kernel
theorem dL_law_1501 : decode code 1501 = .ok (.lshl, 1) := by decide +kernel
theorem dL_law_1502 : decode code 1502 = .ok (.aload_n 0, 1) := by decide +kernel
theorem dL_law_1503 : decode code 1503 = .ok (.iload_n 3, 1) := by decide +kernel
theorem dL_law_1504 : decode code 1504 = .ok (.iconst 4, 1) := by decide +kernel
theorem dL_law_1505 : decode code 1505 = .ok (.iadd, 1) := by decide +kernel
theorem dL_law_1506 : decode code 1506 = .ok (.iaload, 1) := by decide +kernel
theorem dL_law_1507 : decode code 1507 = .ok (.i2l, 1) := by decide +kernel
theorem dL_law_1508 : decode code 1508 = .ok (.ldc2_w 178, 3) := by decide +kernel
theorem dL_law_1511 : decode code 1511 = .ok (.land, 1) := by decide +kernel
theorem dL_law_1512 : decode code 1512 = .ok (.lor, 1) := by decide +kernel
theorem dL_law_1513 : decode code 1513 = .ok (.invokevirtual 184, 3) := by decide +kernel
theorem dL_law_1516 : decode code 1516 = .ok (.lcmp, 1) := by decide +kernel
theorem dL_law_1517 : decode code 1517 = .ok (.ifCond .eq 97, 3) := by decide +kernel
theorem dL_law_1520 : decode code 1520 = .ok (.iconst 0, 1) := by decide +kernel
theorem dL_law_1521 : decode code 1521 = .ok (.ireturn, 1) := by decide +kernel
theorem dL_law_1522 : decode code 1522 = .ok (.aload_n 1, 1) := by decide +kernel
theorem dL_law_1523 : decode code 1523 = .ok (.aload_n 0, 1) := by decide +kernel
theorem dL_law_1524 : decode code 1524 = .ok (.iload_n 3, 1) := by decide +kernel
theorem dL_law_1525 : decode code 1525 = .ok (.iconst 1, 1) := by decide +kernel
theorem dL_law_1526 : decode code 1526 = .ok (.iadd, 1) := by decide +kernel
theorem dL_law_1527 : decode code 1527 = .ok (.iaload, 1) := by decide +kernel
theorem dL_law_1528 : decode code 1528 = .ok (.invokevirtual 185, 3) := by decide +kernel
theorem dL_law_1531 : decode code 1531 = .ok (.aload_n 2, 1) := by decide +kernel
theorem dL_law_1532 : decode code 1532 = .ok (.aload_n 0, 1) := by decide +kernel
theorem dL_law_1533 : decode code 1533 = .ok (.iload_n 3, 1) := by decide +kernel
theorem dL_law_1534 : decode code 1534 = .ok (.iconst 1, 1) := by decide +kernel
theorem dL_law_1535 : decode code 1535 = .ok (.iadd, 1) := by decide +kernel
theorem dL_law_1536 : decode code 1536 = .ok (.iaload, 1) := by decide +kernel
theorem dL_law_1537 : decode code 1537 = .ok (.invokevirtual 188, 3) := by decide +kernel
theorem dL_law_1540 : decode code 1540 = .ok (.if_icmp .eq 74, 3) := by decide +kernel
theorem dL_law_1543 : decode code 1543 = .ok (.iconst 0, 1) := by decide +kernel
theorem dL_law_1544 : decode code 1544 = .ok (.ireturn, 1) := by decide +kernel
theorem dL_law_1545 : decode code 1545 = .ok (.aload_n 1, 1) := by decide +kernel
theorem dL_law_1546 : decode code 1546 = .ok (.aload_n 0, 1) := by decide +kernel
theorem dL_law_1547 : decode code 1547 = .ok (.iload_n 3, 1) := by decide +kernel
theorem dL_law_1548 : decode code 1548 = .ok (.iconst 1, 1) := by decide +kernel
theorem dL_law_1549 : decode code 1549 = .ok (.iadd, 1) := by decide +kernel
theorem dL_law_1550 : decode code 1550 = .ok (.iaload, 1) := by decide +kernel
theorem dL_law_1551 : decode code 1551 = .ok (.invokevirtual 189, 3) := by decide +kernel
theorem dL_law_1554 : decode code 1554 = .ok (.aload_n 2, 1) := by decide +kernel
theorem dL_law_1555 : decode code 1555 = .ok (.aload_n 0, 1) := by decide +kernel
theorem dL_law_1556 : decode code 1556 = .ok (.iload_n 3, 1) := by decide +kernel
theorem dL_law_1557 : decode code 1557 = .ok (.iconst 1, 1) := by decide +kernel
theorem dL_law_1558 : decode code 1558 = .ok (.iadd, 1) := by decide +kernel
theorem dL_law_1559 : decode code 1559 = .ok (.iaload, 1) := by decide +kernel
theorem dL_law_1560 : decode code 1560 = .ok (.invokevirtual 192, 3) := by decide +kernel
theorem dL_law_1563 : decode code 1563 = .ok (.if_icmp .eq 51, 3) := by decide +kernel
theorem dL_law_1566 : decode code 1566 = .ok (.iconst 0, 1) := by decide +kernel
theorem dL_law_1567 : decode code 1567 = .ok (.ireturn, 1) := by decide +kernel
theorem dL_law_1568 : decode code 1568 = .ok (.aload_n 1, 1) := by decide +kernel
theorem dL_law_1569 : decode code 1569 = .ok (.aload_n 0, 1) := by decide +kernel
theorem dL_law_1570 : decode code 1570 = .ok (.iload_n 3, 1) := by decide +kernel
theorem dL_law_1571 : decode code 1571 = .ok (.iconst 1, 1) := by decide +kernel
theorem dL_law_1572 : decode code 1572 = .ok (.iadd, 1) := by decide +kernel
theorem dL_law_1573 : decode code 1573 = .ok (.iaload, 1) := by decide +kernel
theorem dL_law_1574 : decode code 1574 = .ok (.invokevirtual 193, 3) := by decide +kernel
theorem dL_law_1577 : decode code 1577 = .ok (.aload_n 2, 1) := by decide +kernel
theorem dL_law_1578 : decode code 1578 = .ok (.aload_n 0, 1) := by decide +kernel
theorem dL_law_1579 : decode code 1579 = .ok (.iload_n 3, 1) := by decide +kernel
theorem dL_law_1580 : decode code 1580 = .ok (.iconst 1, 1) := by decide +kernel
theorem dL_law_1581 : decode code 1581 = .ok (.iadd, 1) := by decide +kernel
theorem dL_law_1582 : decode code 1582 = .ok (.iaload, 1) := by decide +kernel
theorem dL_law_1583 : decode code 1583 = .ok (.invokevirtual 196, 3) := by decide +kernel
theorem dL_law_1586 : decode code 1586 = .ok (.if_icmp .eq 28, 3) := by decide +kernel
theorem dL_law_1589 : decode code 1589 = .ok (.iconst 0, 1) := by decide +kernel
theorem dL_law_1590 : decode code 1590 = .ok (.ireturn, 1) := by decide +kernel
theorem dL_law_1591 : decode code 1591 = .ok (.aload_n 1, 1) := by decide +kernel
theorem dL_law_1592 : decode code 1592 = .ok (.aload_n 0, 1) := by decide +kernel
theorem dL_law_1593 : decode code 1593 = .ok (.iload_n 3, 1) := by decide +kernel
theorem dL_law_1594 : decode code 1594 = .ok (.iconst 1, 1) := by decide +kernel
theorem dL_law_1595 : decode code 1595 = .ok (.iadd, 1) := by decide +kernel
theorem dL_law_1596 : decode code 1596 = .ok (.iaload, 1) := by decide +kernel
theorem dL_law_1597 : decode code 1597 = .ok (.invokevirtual 197, 3) := by decide +kernel
theorem dL_law_1600 : decode code 1600 = .ok (.aload_n 2, 1) := by decide +kernel
theorem dL_law_1601 : decode code 1601 = .ok (.aload_n 0, 1) := by decide +kernel
theorem dL_law_1602 : decode code 1602 = .ok (.iload_n 3, 1) := by decide +kernel
theorem dL_law_1603 : decode code 1603 = .ok (.iconst 1, 1) := by decide +kernel
theorem dL_law_1604 : decode code 1604 = .ok (.iadd, 1) := by decide +kernel
theorem dL_law_1605 : decode code 1605 = .ok (.iaload, 1) := by decide +kernel
theorem dL_law_1606 : decode code 1606 = .ok (.invokevirtual 200, 3) := by decide +kernel
theorem dL_law_1609 : decode code 1609 = .ok (.if_icmp .eq 5, 3) := by decide +kernel
theorem dL_law_1612 : decode code 1612 = .ok (.iconst 0, 1) := by decide +kernel
theorem dL_law_1613 : decode code 1613 = .ok (.ireturn, 1) := by decide +kernel
theorem dL_law_1614 : decode code 1614 = .ok (.iinc 3 6, 3) := by decide +kernel
theorem dL_law_1617 : decode code 1617 = .ok (.goto (-1599), 3) := by decide +kernel
theorem dL_law_1620 : decode code 1620 = .ok (.iconst 1, 1) := by decide +kernel
theorem dL_law_1621 : decode code 1621 = .ok (.ireturn, 1) := by decide +kernel
