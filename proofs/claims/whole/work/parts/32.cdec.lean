/-! CONSTRUCTORS, walked -/
theorem good_gt {w : Cond} (h : w ∈ gt) : GoodIn gt (w :: gt) := fun v hv => by
  rcases List.mem_cons.mp hv with rfl | hv
  · exact ⟨h, good_of_word (List.mem_filter.mp h).2⟩
  · exact ⟨hv, good_of_word (List.mem_filter.mp hv).2⟩
set_option maxRecDepth 100000 in
theorem wk2 : Cond.initialized RX10 ∈ gt := gt_at (i := npv + 2) (by decide +kernel) rfl
set_option maxRecDepth 100000 in
theorem wk3 : Cond.initialized RX8 ∈ gt := gt_at (i := npv + 3) (by decide +kernel) rfl
set_option maxRecDepth 100000 in
theorem wk4 : Cond.initialized RX2 ∈ gt := gt_at (i := npv + 4) (by decide +kernel) rfl
set_option maxRecDepth 100000 in
theorem wk5 : Cond.initialized RX1 ∈ gt := gt_at (i := npv + 5) (by decide +kernel) rfl
set_option maxRecDepth 100000 in
theorem wk6 : Cond.initialized RX6 ∈ gt := gt_at (i := npv + 6) (by decide +kernel) rfl
set_option maxRecDepth 100000 in
theorem wk7 : Cond.initialized RX0 ∈ gt := gt_at (i := npv + 7) (by decide +kernel) rfl
set_option maxRecDepth 100000 in
theorem wk8 : Cond.initialized RX4 ∈ gt := gt_at (i := npv + 8) (by decide +kernel) rfl
set_option maxRecDepth 100000 in
theorem wk9 : Cond.initialized RX7 ∈ gt := gt_at (i := npv + 9) (by decide +kernel) rfl
set_option maxRecDepth 100000 in
theorem wk10 : Cond.initialized RX5 ∈ gt := gt_at (i := npv + 10) (by decide +kernel) rfl
set_option maxRecDepth 100000 in
theorem wk11 : Cond.initialized RX3 ∈ gt := gt_at (i := npv + 11) (by decide +kernel) rfl
set_option maxRecDepth 100000 in
theorem wk12 : Cond.initialized RX9 ∈ gt := gt_at (i := npv + 12) (by decide +kernel) rfl
set_option maxRecDepth 100000 in
theorem wk29 : Cond.methodLink RX11 3 Lib.objectInit ∈ gt := gt_at (i := npv + 29) (by decide +kernel) rfl
set_option maxRecDepth 100000 in
theorem wk30 : Cond.instanceMethod Lib.objectInit ∈ gt := gt_at (i := npv + 30) (by decide +kernel) rfl
set_option maxRecDepth 100000 in
theorem wk31 : Cond.code Lib.objectInit ⟨#[0xb1]⟩ 1 none ∈ gt := gt_at (i := npv + 31) (by decide +kernel) rfl
set_option maxRecDepth 100000 in
theorem wk32 : Cond.classLink RX11 9 RX10 ∈ gt := gt_at (i := npv + 32) (by decide +kernel) rfl
set_option maxRecDepth 100000 in
theorem wk33 : Cond.instantiable RX10 12 ∈ gt := gt_at (i := npv + 33) (by decide +kernel) rfl
set_option maxRecDepth 100000 in
theorem wk35 : Cond.instanceMethod yX10_init ∈ gt := gt_at (i := npv + 35) (by decide +kernel) rfl
set_option maxRecDepth 100000 in
theorem wk36 : Cond.code yX10_init cX10_init 1 none ∈ gt := gt_at (i := npv + 36) (by decide +kernel) rfl
set_option maxRecDepth 100000 in
theorem wk37 : Cond.methodLink RX10 3 Lib.objectInit ∈ gt := gt_at (i := npv + 37) (by decide +kernel) rfl
set_option maxRecDepth 100000 in
theorem wk43 : Cond.fieldLink RX10 9 (tOf 10 2).1 (tOf 10 2).2.1 (tOf 10 2).2.2.1 ∈ gt := gt_at (i := npv + 43) (by decide +kernel) rfl
set_option maxRecDepth 100000 in
theorem wk54 : Cond.fieldLink RX10 15 (tOf 10 6).1 (tOf 10 6).2.1 (tOf 10 6).2.2.1 ∈ gt := gt_at (i := npv + 54) (by decide +kernel) rfl
set_option maxRecDepth 100000 in
theorem wk55 : Cond.fieldLink RX10 19 (tOf 10 7).1 (tOf 10 7).2.1 (tOf 10 7).2.2.1 ∈ gt := gt_at (i := npv + 55) (by decide +kernel) rfl
set_option maxRecDepth 100000 in
theorem wk56 : Cond.fieldLink RX10 23 (tOf 10 8).1 (tOf 10 8).2.1 (tOf 10 8).2.2.1 ∈ gt := gt_at (i := npv + 56) (by decide +kernel) rfl
set_option maxRecDepth 100000 in
theorem wk57 : Cond.fieldLink RX10 26 (tOf 10 9).1 (tOf 10 9).2.1 (tOf 10 9).2.2.1 ∈ gt := gt_at (i := npv + 57) (by decide +kernel) rfl
set_option maxRecDepth 100000 in
theorem wk85 : Cond.arrayClass (newarray.typeOf .byte) ∈ gt := gt_at (i := npv + 85) (by decide +kernel) rfl
set_option maxRecDepth 100000 in
theorem wk86 : Cond.arrayClass (newarray.typeOf .int) ∈ gt := gt_at (i := npv + 86) (by decide +kernel) rfl
set_option maxRecDepth 100000 in
theorem wk87 : Cond.arrayClass (newarray.typeOf .long) ∈ gt := gt_at (i := npv + 87) (by decide +kernel) rfl
set_option maxRecDepth 100000 in
theorem wk88 : Cond.classLink RX11 16 RX8 ∈ gt := gt_at (i := npv + 88) (by decide +kernel) rfl
set_option maxRecDepth 100000 in
theorem wk89 : Cond.instantiable RX8 2 ∈ gt := gt_at (i := npv + 89) (by decide +kernel) rfl
set_option maxRecDepth 100000 in
theorem wk91 : Cond.instanceMethod yX8_init ∈ gt := gt_at (i := npv + 91) (by decide +kernel) rfl
set_option maxRecDepth 100000 in
theorem wk92 : Cond.code yX8_init cX8_init 1 none ∈ gt := gt_at (i := npv + 92) (by decide +kernel) rfl
set_option maxRecDepth 100000 in
theorem wk93 : Cond.methodLink RX8 3 Lib.objectInit ∈ gt := gt_at (i := npv + 93) (by decide +kernel) rfl
set_option maxRecDepth 100000 in
theorem wk94 : Cond.fieldLink RX8 9 (tOf 8 0).1 (tOf 8 0).2.1 (tOf 8 0).2.2.1 ∈ gt := gt_at (i := npv + 94) (by decide +kernel) rfl
set_option maxRecDepth 100000 in
theorem wk95 : Cond.fieldLink RX8 15 (tOf 8 1).1 (tOf 8 1).2.1 (tOf 8 1).2.2.1 ∈ gt := gt_at (i := npv + 95) (by decide +kernel) rfl
set_option maxRecDepth 100000 in
theorem wk102 : Cond.classLink RX11 23 RX2 ∈ gt := gt_at (i := npv + 102) (by decide +kernel) rfl
set_option maxRecDepth 100000 in
theorem wk103 : Cond.instantiable RX2 6 ∈ gt := gt_at (i := npv + 103) (by decide +kernel) rfl
set_option maxRecDepth 100000 in
theorem wk104 : Cond.methodLink RX11 25 yX2_init ∈ gt := gt_at (i := npv + 104) (by decide +kernel) rfl
set_option maxRecDepth 100000 in
theorem wk105 : Cond.instanceMethod yX2_init ∈ gt := gt_at (i := npv + 105) (by decide +kernel) rfl
set_option maxRecDepth 100000 in
theorem wk106 : Cond.code yX2_init cX2_init 3 none ∈ gt := gt_at (i := npv + 106) (by decide +kernel) rfl
set_option maxRecDepth 100000 in
theorem wk107 : Cond.methodLink RX2 3 Lib.objectInit ∈ gt := gt_at (i := npv + 107) (by decide +kernel) rfl
set_option maxRecDepth 100000 in
theorem wk108 : Cond.fieldLink RX2 19 (tOf 2 0).1 (tOf 2 0).2.1 (tOf 2 0).2.2.1 ∈ gt := gt_at (i := npv + 108) (by decide +kernel) rfl
set_option maxRecDepth 100000 in
theorem wk109 : Cond.fieldLink RX2 23 (tOf 2 1).1 (tOf 2 1).2.1 (tOf 2 1).2.2.1 ∈ gt := gt_at (i := npv + 109) (by decide +kernel) rfl
set_option maxRecDepth 100000 in
theorem wk111 : Cond.fieldLink RX2 9 (tOf 2 3).1 (tOf 2 3).2.1 (tOf 2 3).2.2.1 ∈ gt := gt_at (i := npv + 111) (by decide +kernel) rfl
set_option maxRecDepth 100000 in
theorem wk112 : Cond.fieldLink RX2 15 (tOf 2 4).1 (tOf 2 4).2.1 (tOf 2 4).2.2.1 ∈ gt := gt_at (i := npv + 112) (by decide +kernel) rfl
set_option maxRecDepth 100000 in
theorem wk128 : Cond.classLink RX11 32 RX1 ∈ gt := gt_at (i := npv + 128) (by decide +kernel) rfl
set_option maxRecDepth 100000 in
theorem wk129 : Cond.instantiable RX1 13 ∈ gt := gt_at (i := npv + 129) (by decide +kernel) rfl
set_option maxRecDepth 100000 in
theorem wk131 : Cond.instanceMethod yX1_init ∈ gt := gt_at (i := npv + 131) (by decide +kernel) rfl
set_option maxRecDepth 100000 in
theorem wk132 : Cond.code yX1_init cX1_init 1 none ∈ gt := gt_at (i := npv + 132) (by decide +kernel) rfl
set_option maxRecDepth 100000 in
theorem wk133 : Cond.methodLink RX1 3 Lib.objectInit ∈ gt := gt_at (i := npv + 133) (by decide +kernel) rfl
set_option maxRecDepth 100000 in
theorem wk137 : Cond.fieldLink RX1 9 (tOf 1 1).1 (tOf 1 1).2.1 (tOf 1 1).2.2.1 ∈ gt := gt_at (i := npv + 137) (by decide +kernel) rfl
set_option maxRecDepth 100000 in
theorem wk138 : Cond.fieldLink RX1 15 (tOf 1 2).1 (tOf 1 2).2.1 (tOf 1 2).2.2.1 ∈ gt := gt_at (i := npv + 138) (by decide +kernel) rfl
set_option maxRecDepth 100000 in
theorem wk153 : Cond.fieldLink RX1 19 (tOf 1 5).1 (tOf 1 5).2.1 (tOf 1 5).2.2.1 ∈ gt := gt_at (i := npv + 153) (by decide +kernel) rfl
set_option maxRecDepth 100000 in
theorem wk156 : Cond.fieldLink RX1 22 (tOf 1 6).1 (tOf 1 6).2.1 (tOf 1 6).2.2.1 ∈ gt := gt_at (i := npv + 156) (by decide +kernel) rfl
set_option maxRecDepth 100000 in
theorem wk160 : Cond.fieldLink RX1 25 (tOf 1 7).1 (tOf 1 7).2.1 (tOf 1 7).2.2.1 ∈ gt := gt_at (i := npv + 160) (by decide +kernel) rfl
set_option maxRecDepth 100000 in
theorem wk167 : Cond.fieldLink RX1 28 (tOf 1 8).1 (tOf 1 8).2.1 (tOf 1 8).2.2.1 ∈ gt := gt_at (i := npv + 167) (by decide +kernel) rfl
set_option maxRecDepth 100000 in
theorem wk172 : Cond.fieldLink RX1 31 (tOf 1 9).1 (tOf 1 9).2.1 (tOf 1 9).2.2.1 ∈ gt := gt_at (i := npv + 172) (by decide +kernel) rfl
set_option maxRecDepth 100000 in
theorem wk177 : Cond.fieldLink RX1 34 (tOf 1 11).1 (tOf 1 11).2.1 (tOf 1 11).2.2.1 ∈ gt := gt_at (i := npv + 177) (by decide +kernel) rfl
set_option maxRecDepth 100000 in
theorem wk179 : Cond.fieldLink RX1 37 (tOf 1 12).1 (tOf 1 12).2.1 (tOf 1 12).2.2.1 ∈ gt := gt_at (i := npv + 179) (by decide +kernel) rfl
set_option maxRecDepth 100000 in
theorem wk208 : Cond.classLink RX11 42 RX6 ∈ gt := gt_at (i := npv + 208) (by decide +kernel) rfl
set_option maxRecDepth 100000 in
theorem wk209 : Cond.instantiable RX6 12 ∈ gt := gt_at (i := npv + 209) (by decide +kernel) rfl
set_option maxRecDepth 100000 in
theorem wk210 : Cond.methodLink RX11 44 yX6_init ∈ gt := gt_at (i := npv + 210) (by decide +kernel) rfl
set_option maxRecDepth 100000 in
theorem wk211 : Cond.instanceMethod yX6_init ∈ gt := gt_at (i := npv + 211) (by decide +kernel) rfl
set_option maxRecDepth 100000 in
theorem wk212 : Cond.code yX6_init cX6_init 2 none ∈ gt := gt_at (i := npv + 212) (by decide +kernel) rfl
set_option maxRecDepth 100000 in
theorem wk213 : Cond.methodLink RX6 3 Lib.objectInit ∈ gt := gt_at (i := npv + 213) (by decide +kernel) rfl
set_option maxRecDepth 100000 in
theorem wk214 : Cond.fieldLink RX6 30 (tOf 6 0).1 (tOf 6 0).2.1 (tOf 6 0).2.2.1 ∈ gt := gt_at (i := npv + 214) (by decide +kernel) rfl
set_option maxRecDepth 100000 in
theorem wk218 : Cond.fieldLink RX6 9 (tOf 6 3).1 (tOf 6 3).2.1 (tOf 6 3).2.2.1 ∈ gt := gt_at (i := npv + 218) (by decide +kernel) rfl
set_option maxRecDepth 100000 in
theorem wk220 : Cond.fieldLink RX6 15 (tOf 6 4).1 (tOf 6 4).2.1 (tOf 6 4).2.2.1 ∈ gt := gt_at (i := npv + 220) (by decide +kernel) rfl
set_option maxRecDepth 100000 in
theorem wk222 : Cond.fieldLink RX6 18 (tOf 6 5).1 (tOf 6 5).2.1 (tOf 6 5).2.2.1 ∈ gt := gt_at (i := npv + 222) (by decide +kernel) rfl
set_option maxRecDepth 100000 in
theorem wk223 : Cond.fieldLink RX6 21 (tOf 6 6).1 (tOf 6 6).2.1 (tOf 6 6).2.2.1 ∈ gt := gt_at (i := npv + 223) (by decide +kernel) rfl
set_option maxRecDepth 100000 in
theorem wk224 : Cond.fieldLink RX6 24 (tOf 6 7).1 (tOf 6 7).2.1 (tOf 6 7).2.2.1 ∈ gt := gt_at (i := npv + 224) (by decide +kernel) rfl
set_option maxRecDepth 100000 in
theorem wk227 : Cond.fieldLink RX6 27 (tOf 6 10).1 (tOf 6 10).2.1 (tOf 6 10).2.2.1 ∈ gt := gt_at (i := npv + 227) (by decide +kernel) rfl
set_option maxRecDepth 100000 in
theorem wk255 : Cond.classLink RX11 62 RX0 ∈ gt := gt_at (i := npv + 255) (by decide +kernel) rfl
set_option maxRecDepth 100000 in
theorem wk256 : Cond.instantiable RX0 6 ∈ gt := gt_at (i := npv + 256) (by decide +kernel) rfl
set_option maxRecDepth 100000 in
theorem wk258 : Cond.instanceMethod yX0_init ∈ gt := gt_at (i := npv + 258) (by decide +kernel) rfl
set_option maxRecDepth 100000 in
theorem wk259 : Cond.code yX0_init cX0_init 1 none ∈ gt := gt_at (i := npv + 259) (by decide +kernel) rfl
set_option maxRecDepth 100000 in
theorem wk260 : Cond.methodLink RX0 1 Lib.objectInit ∈ gt := gt_at (i := npv + 260) (by decide +kernel) rfl
set_option maxRecDepth 100000 in
theorem wk264 : Cond.fieldLink RX0 9 (tOf 0 2).1 (tOf 0 2).2.1 (tOf 0 2).2.2.1 ∈ gt := gt_at (i := npv + 264) (by decide +kernel) rfl
set_option maxRecDepth 100000 in
theorem wk265 : Cond.fieldLink RX0 13 (tOf 0 3).1 (tOf 0 3).2.1 (tOf 0 3).2.2.1 ∈ gt := gt_at (i := npv + 265) (by decide +kernel) rfl
set_option maxRecDepth 100000 in
theorem wk266 : Cond.fieldLink RX0 16 (tOf 0 4).1 (tOf 0 4).2.1 (tOf 0 4).2.2.1 ∈ gt := gt_at (i := npv + 266) (by decide +kernel) rfl
set_option maxRecDepth 100000 in
theorem wk267 : Cond.fieldLink RX0 19 (tOf 0 5).1 (tOf 0 5).2.1 (tOf 0 5).2.2.1 ∈ gt := gt_at (i := npv + 267) (by decide +kernel) rfl
set_option maxRecDepth 100000 in
theorem wk281 : Cond.arrayClass (newarray.typeOf .boolean) ∈ gt := gt_at (i := npv + 281) (by decide +kernel) rfl
set_option maxRecDepth 100000 in
theorem wk282 : Cond.classLink RX11 72 RX4 ∈ gt := gt_at (i := npv + 282) (by decide +kernel) rfl
set_option maxRecDepth 100000 in
theorem wk283 : Cond.instantiable RX4 9 ∈ gt := gt_at (i := npv + 283) (by decide +kernel) rfl
set_option maxRecDepth 100000 in
theorem wk285 : Cond.instanceMethod yX4_init ∈ gt := gt_at (i := npv + 285) (by decide +kernel) rfl
set_option maxRecDepth 100000 in
theorem wk286 : Cond.code yX4_init cX4_init 1 none ∈ gt := gt_at (i := npv + 286) (by decide +kernel) rfl
set_option maxRecDepth 100000 in
theorem wk287 : Cond.methodLink RX4 3 Lib.objectInit ∈ gt := gt_at (i := npv + 287) (by decide +kernel) rfl
set_option maxRecDepth 100000 in
theorem wk288 : Cond.fieldLink RX4 9 (tOf 4 0).1 (tOf 4 0).2.1 (tOf 4 0).2.2.1 ∈ gt := gt_at (i := npv + 288) (by decide +kernel) rfl
set_option maxRecDepth 100000 in
theorem wk290 : Cond.fieldLink RX4 15 (tOf 4 1).1 (tOf 4 1).2.1 (tOf 4 1).2.2.1 ∈ gt := gt_at (i := npv + 290) (by decide +kernel) rfl
set_option maxRecDepth 100000 in
theorem wk291 : Cond.fieldLink RX4 18 (tOf 4 2).1 (tOf 4 2).2.1 (tOf 4 2).2.2.1 ∈ gt := gt_at (i := npv + 291) (by decide +kernel) rfl
set_option maxRecDepth 100000 in
theorem wk292 : Cond.fieldLink RX4 21 (tOf 4 3).1 (tOf 4 3).2.1 (tOf 4 3).2.2.1 ∈ gt := gt_at (i := npv + 292) (by decide +kernel) rfl
set_option maxRecDepth 100000 in
theorem wk293 : Cond.fieldLink RX4 24 (tOf 4 4).1 (tOf 4 4).2.1 (tOf 4 4).2.2.1 ∈ gt := gt_at (i := npv + 293) (by decide +kernel) rfl
set_option maxRecDepth 100000 in
theorem wk317 : Cond.classLink RX11 75 RX7 ∈ gt := gt_at (i := npv + 317) (by decide +kernel) rfl
set_option maxRecDepth 100000 in
theorem wk318 : Cond.instantiable RX7 10 ∈ gt := gt_at (i := npv + 318) (by decide +kernel) rfl
set_option maxRecDepth 100000 in
theorem wk319 : Cond.methodLink RX11 77 yX7_init ∈ gt := gt_at (i := npv + 319) (by decide +kernel) rfl
set_option maxRecDepth 100000 in
theorem wk320 : Cond.instanceMethod yX7_init ∈ gt := gt_at (i := npv + 320) (by decide +kernel) rfl
set_option maxRecDepth 100000 in
theorem wk321 : Cond.code yX7_init cX7_init 2 none ∈ gt := gt_at (i := npv + 321) (by decide +kernel) rfl
set_option maxRecDepth 100000 in
theorem wk322 : Cond.methodLink RX7 3 Lib.objectInit ∈ gt := gt_at (i := npv + 322) (by decide +kernel) rfl
set_option maxRecDepth 100000 in
theorem wk323 : Cond.classLink RX7 22 RX5 ∈ gt := gt_at (i := npv + 323) (by decide +kernel) rfl
set_option maxRecDepth 100000 in
theorem wk324 : Cond.instantiable RX5 2 ∈ gt := gt_at (i := npv + 324) (by decide +kernel) rfl
set_option maxRecDepth 100000 in
theorem wk326 : Cond.instanceMethod yX5_init ∈ gt := gt_at (i := npv + 326) (by decide +kernel) rfl
set_option maxRecDepth 100000 in
theorem wk327 : Cond.code yX5_init cX5_init 1 none ∈ gt := gt_at (i := npv + 327) (by decide +kernel) rfl
set_option maxRecDepth 100000 in
theorem wk328 : Cond.methodLink RX5 1 Lib.objectInit ∈ gt := gt_at (i := npv + 328) (by decide +kernel) rfl
set_option maxRecDepth 100000 in
theorem wk333 : Cond.fieldLink RX5 7 (tOf 5 1).1 (tOf 5 1).2.1 (tOf 5 1).2.2.1 ∈ gt := gt_at (i := npv + 333) (by decide +kernel) rfl
set_option maxRecDepth 100000 in
theorem wk342 : Cond.fieldLink RX7 41 (tOf 7 0).1 (tOf 7 0).2.1 (tOf 7 0).2.2.1 ∈ gt := gt_at (i := npv + 342) (by decide +kernel) rfl
set_option maxRecDepth 100000 in
theorem wk343 : Cond.fieldLink RX7 9 (tOf 7 1).1 (tOf 7 1).2.1 (tOf 7 1).2.2.1 ∈ gt := gt_at (i := npv + 343) (by decide +kernel) rfl
set_option maxRecDepth 100000 in
theorem wk345 : Cond.fieldLink RX7 15 (tOf 7 2).1 (tOf 7 2).2.1 (tOf 7 2).2.2.1 ∈ gt := gt_at (i := npv + 345) (by decide +kernel) rfl
set_option maxRecDepth 100000 in
theorem wk347 : Cond.fieldLink RX7 19 (tOf 7 3).1 (tOf 7 3).2.1 (tOf 7 3).2.2.1 ∈ gt := gt_at (i := npv + 347) (by decide +kernel) rfl
set_option maxRecDepth 100000 in
theorem wk349 : Cond.fieldLink RX7 25 (tOf 7 4).1 (tOf 7 4).2.1 (tOf 7 4).2.2.1 ∈ gt := gt_at (i := npv + 349) (by decide +kernel) rfl
set_option maxRecDepth 100000 in
theorem wk351 : Cond.fieldLink RX7 29 (tOf 7 5).1 (tOf 7 5).2.1 (tOf 7 5).2.2.1 ∈ gt := gt_at (i := npv + 351) (by decide +kernel) rfl
set_option maxRecDepth 100000 in
theorem wk353 : Cond.fieldLink RX7 32 (tOf 7 6).1 (tOf 7 6).2.1 (tOf 7 6).2.2.1 ∈ gt := gt_at (i := npv + 353) (by decide +kernel) rfl
set_option maxRecDepth 100000 in
theorem wk357 : Cond.fieldLink RX7 35 (tOf 7 8).1 (tOf 7 8).2.1 (tOf 7 8).2.2.1 ∈ gt := gt_at (i := npv + 357) (by decide +kernel) rfl
set_option maxRecDepth 100000 in
theorem wk358 : Cond.fieldLink RX7 38 (tOf 7 9).1 (tOf 7 9).2.1 (tOf 7 9).2.2.1 ∈ gt := gt_at (i := npv + 358) (by decide +kernel) rfl
set_option maxRecDepth 100000 in
theorem wk380 : Cond.classLink RX11 87 RX3 ∈ gt := gt_at (i := npv + 380) (by decide +kernel) rfl
set_option maxRecDepth 100000 in
theorem wk381 : Cond.instantiable RX3 7 ∈ gt := gt_at (i := npv + 381) (by decide +kernel) rfl
set_option maxRecDepth 100000 in
theorem wk383 : Cond.instanceMethod yX3_init ∈ gt := gt_at (i := npv + 383) (by decide +kernel) rfl
set_option maxRecDepth 100000 in
theorem wk384 : Cond.code yX3_init cX3_init 1 none ∈ gt := gt_at (i := npv + 384) (by decide +kernel) rfl
set_option maxRecDepth 100000 in
theorem wk385 : Cond.methodLink RX3 3 Lib.objectInit ∈ gt := gt_at (i := npv + 385) (by decide +kernel) rfl
set_option maxRecDepth 100000 in
theorem wk392 : Cond.fieldLink RX3 9 (tOf 3 3).1 (tOf 3 3).2.1 (tOf 3 3).2.2.1 ∈ gt := gt_at (i := npv + 392) (by decide +kernel) rfl
set_option maxRecDepth 100000 in
theorem wk393 : Cond.fieldLink RX3 15 (tOf 3 4).1 (tOf 3 4).2.1 (tOf 3 4).2.2.1 ∈ gt := gt_at (i := npv + 393) (by decide +kernel) rfl
set_option maxRecDepth 100000 in
theorem wk394 : Cond.fieldLink RX3 18 (tOf 3 5).1 (tOf 3 5).2.1 (tOf 3 5).2.2.1 ∈ gt := gt_at (i := npv + 394) (by decide +kernel) rfl
set_option maxRecDepth 100000 in
theorem wk411 : Cond.classLink RX11 94 RX9 ∈ gt := gt_at (i := npv + 411) (by decide +kernel) rfl
set_option maxRecDepth 100000 in
theorem wk412 : Cond.instantiable RX9 10 ∈ gt := gt_at (i := npv + 412) (by decide +kernel) rfl
set_option maxRecDepth 100000 in
theorem wk414 : Cond.instanceMethod yX9_init ∈ gt := gt_at (i := npv + 414) (by decide +kernel) rfl
set_option maxRecDepth 100000 in
theorem wk415 : Cond.code yX9_init cX9_init 1 none ∈ gt := gt_at (i := npv + 415) (by decide +kernel) rfl
set_option maxRecDepth 100000 in
theorem wk416 : Cond.methodLink RX9 3 Lib.objectInit ∈ gt := gt_at (i := npv + 416) (by decide +kernel) rfl
set_option maxRecDepth 100000 in
theorem wk417 : Cond.classLink RX9 9 RX5 ∈ gt := gt_at (i := npv + 417) (by decide +kernel) rfl
set_option maxRecDepth 100000 in
theorem wk419 : Cond.fieldLink RX9 12 (tOf 9 0).1 (tOf 9 0).2.1 (tOf 9 0).2.2.1 ∈ gt := gt_at (i := npv + 419) (by decide +kernel) rfl
set_option maxRecDepth 100000 in
theorem wk424 : Cond.fieldLink RX9 18 (tOf 9 3).1 (tOf 9 3).2.1 (tOf 9 3).2.2.1 ∈ gt := gt_at (i := npv + 424) (by decide +kernel) rfl
set_option maxRecDepth 100000 in
theorem wk425 : Cond.fieldLink RX9 22 (tOf 9 4).1 (tOf 9 4).2.1 (tOf 9 4).2.2.1 ∈ gt := gt_at (i := npv + 425) (by decide +kernel) rfl
set_option maxRecDepth 100000 in
theorem wk426 : Cond.fieldLink RX9 25 (tOf 9 5).1 (tOf 9 5).2.1 (tOf 9 5).2.2.1 ∈ gt := gt_at (i := npv + 426) (by decide +kernel) rfl
set_option maxRecDepth 100000 in
theorem wk427 : Cond.fieldLink RX9 28 (tOf 9 6).1 (tOf 9 6).2.1 (tOf 9 6).2.2.1 ∈ gt := gt_at (i := npv + 427) (by decide +kernel) rfl
set_option maxRecDepth 100000 in
theorem wk428 : Cond.fieldLink RX9 32 (tOf 9 7).1 (tOf 9 7).2.1 (tOf 9 7).2.2.1 ∈ gt := gt_at (i := npv + 428) (by decide +kernel) rfl
set_option maxRecDepth 100000 in
theorem wk429 : Cond.fieldLink RX9 35 (tOf 9 8).1 (tOf 9 8).2.1 (tOf 9 8).2.2.1 ∈ gt := gt_at (i := npv + 429) (by decide +kernel) rfl
set_option maxRecDepth 100000 in
theorem wk430 : Cond.fieldLink RX9 38 (tOf 9 9).1 (tOf 9 9).2.1 (tOf 9 9).2.2.1 ∈ gt := gt_at (i := npv + 430) (by decide +kernel) rfl
set_option maxRecDepth 100000 in
theorem wk452 : Cond.classLink RX11 101 RX5 ∈ gt := gt_at (i := npv + 452) (by decide +kernel) rfl
set_option maxRecDepth 100000 in
theorem wk454 : Cond.fieldLink RX11 12 (tOf 11 0).1 (tOf 11 0).2.1 (tOf 11 0).2.2.1 ∈ gt := gt_at (i := npv + 454) (by decide +kernel) rfl
set_option maxRecDepth 100000 in
theorem wk455 : Cond.fieldLink RX11 28 (tOf 11 1).1 (tOf 11 1).2.1 (tOf 11 1).2.2.1 ∈ gt := gt_at (i := npv + 455) (by decide +kernel) rfl
set_option maxRecDepth 100000 in
theorem wk456 : Cond.fieldLink RX11 35 (tOf 11 2).1 (tOf 11 2).2.1 (tOf 11 2).2.2.1 ∈ gt := gt_at (i := npv + 456) (by decide +kernel) rfl
set_option maxRecDepth 100000 in
theorem wk457 : Cond.fieldLink RX11 39 (tOf 11 3).1 (tOf 11 3).2.1 (tOf 11 3).2.2.1 ∈ gt := gt_at (i := npv + 457) (by decide +kernel) rfl
set_option maxRecDepth 100000 in
theorem wk458 : Cond.fieldLink RX11 47 (tOf 11 4).1 (tOf 11 4).2.1 (tOf 11 4).2.2.1 ∈ gt := gt_at (i := npv + 458) (by decide +kernel) rfl
set_option maxRecDepth 100000 in
theorem wk459 : Cond.fieldLink RX11 51 (tOf 11 5).1 (tOf 11 5).2.1 (tOf 11 5).2.2.1 ∈ gt := gt_at (i := npv + 459) (by decide +kernel) rfl
set_option maxRecDepth 100000 in
theorem wk460 : Cond.fieldLink RX11 54 (tOf 11 6).1 (tOf 11 6).2.1 (tOf 11 6).2.2.1 ∈ gt := gt_at (i := npv + 460) (by decide +kernel) rfl
set_option maxRecDepth 100000 in
theorem wk461 : Cond.fieldLink RX11 58 (tOf 11 7).1 (tOf 11 7).2.1 (tOf 11 7).2.2.1 ∈ gt := gt_at (i := npv + 461) (by decide +kernel) rfl
set_option maxRecDepth 100000 in
theorem wk462 : Cond.fieldLink RX11 65 (tOf 11 8).1 (tOf 11 8).2.1 (tOf 11 8).2.2.1 ∈ gt := gt_at (i := npv + 462) (by decide +kernel) rfl
set_option maxRecDepth 100000 in
theorem wk463 : Cond.fieldLink RX11 69 (tOf 11 9).1 (tOf 11 9).2.1 (tOf 11 9).2.2.1 ∈ gt := gt_at (i := npv + 463) (by decide +kernel) rfl
set_option maxRecDepth 100000 in
theorem wk464 : Cond.fieldLink RX11 19 (tOf 11 10).1 (tOf 11 10).2.1 (tOf 11 10).2.2.1 ∈ gt := gt_at (i := npv + 464) (by decide +kernel) rfl
set_option maxRecDepth 100000 in
theorem wk465 : Cond.fieldLink RX11 80 (tOf 11 11).1 (tOf 11 11).2.1 (tOf 11 11).2.2.1 ∈ gt := gt_at (i := npv + 465) (by decide +kernel) rfl
set_option maxRecDepth 100000 in
theorem wk466 : Cond.fieldLink RX11 84 (tOf 11 12).1 (tOf 11 12).2.1 (tOf 11 12).2.2.1 ∈ gt := gt_at (i := npv + 466) (by decide +kernel) rfl
set_option maxRecDepth 100000 in
theorem wk467 : Cond.fieldLink RX11 90 (tOf 11 13).1 (tOf 11 13).2.1 (tOf 11 13).2.2.1 ∈ gt := gt_at (i := npv + 467) (by decide +kernel) rfl
set_option maxRecDepth 100000 in
theorem wk468 : Cond.fieldLink RX11 97 (tOf 11 14).1 (tOf 11 14).2.1 (tOf 11 14).2.2.1 ∈ gt := gt_at (i := npv + 468) (by decide +kernel) rfl
set_option maxRecDepth 100000 in
theorem wk469 : Cond.fieldLink RX11 104 (tOf 11 15).1 (tOf 11 15).2.1 (tOf 11 15).2.2.1 ∈ gt := gt_at (i := npv + 469) (by decide +kernel) rfl
set_option maxRecDepth 100000 in
theorem wk1356 : Cond.methodLink RX12 1 Lib.objectInit ∈ gt := gt_at (i := npv + 1356) (by decide +kernel) rfl
set_option maxRecDepth 100000 in
theorem wk1357 : Cond.constant RX12 94 65536 ∈ gt := gt_at (i := npv + 1357) (by decide +kernel) rfl
set_option maxRecDepth 100000 in
theorem wk1358 : Cond.fieldLink RX12 7 (tOf 12 0).1 (tOf 12 0).2.1 (tOf 12 0).2.2.1 ∈ gt := gt_at (i := npv + 1358) (by decide +kernel) rfl
set_option maxRecDepth 100000 in
theorem wk1361 : Cond.fieldLink RX12 13 (tOf 12 3).1 (tOf 12 3).2.1 (tOf 12 3).2.2.1 ∈ gt := gt_at (i := npv + 1361) (by decide +kernel) rfl
set_option maxRecDepth 100000 in
theorem wk1369 : Cond.fieldLink RX12 17 (tOf 12 11).1 (tOf 12 11).2.1 (tOf 12 11).2.2.1 ∈ gt := gt_at (i := npv + 1369) (by decide +kernel) rfl
set_option maxRecDepth 100000 in
theorem wk1370 : Cond.fieldLink RX12 21 (tOf 12 12).1 (tOf 12 12).2.1 (tOf 12 12).2.2.1 ∈ gt := gt_at (i := npv + 1370) (by decide +kernel) rfl
set_option maxRecDepth 100000 in
theorem wk1371 : Cond.fieldLink RX12 24 (tOf 12 13).1 (tOf 12 13).2.1 (tOf 12 13).2.2.1 ∈ gt := gt_at (i := npv + 1371) (by decide +kernel) rfl
set_option maxRecDepth 100000 in
theorem wk1372 : Cond.fieldLink RX12 27 (tOf 12 14).1 (tOf 12 14).2.1 (tOf 12 14).2.2.1 ∈ gt := gt_at (i := npv + 1372) (by decide +kernel) rfl
set_option maxRecDepth 100000 in
theorem wk1373 : Cond.fieldLink RX12 30 (tOf 12 15).1 (tOf 12 15).2.1 (tOf 12 15).2.2.1 ∈ gt := gt_at (i := npv + 1373) (by decide +kernel) rfl
set_option maxRecDepth 100000 in
theorem wk1374 : Cond.fieldLink RX12 33 (tOf 12 16).1 (tOf 12 16).2.1 (tOf 12 16).2.2.1 ∈ gt := gt_at (i := npv + 1374) (by decide +kernel) rfl
set_option maxRecDepth 100000 in
theorem wk1375 : Cond.fieldLink RX12 36 (tOf 12 17).1 (tOf 12 17).2.1 (tOf 12 17).2.2.1 ∈ gt := gt_at (i := npv + 1375) (by decide +kernel) rfl
set_option maxRecDepth 100000 in
theorem wk1376 : Cond.fieldLink RX12 39 (tOf 12 18).1 (tOf 12 18).2.1 (tOf 12 18).2.2.1 ∈ gt := gt_at (i := npv + 1376) (by decide +kernel) rfl
set_option maxRecDepth 100000 in
theorem wk1377 : Cond.fieldLink RX12 42 (tOf 12 19).1 (tOf 12 19).2.1 (tOf 12 19).2.2.1 ∈ gt := gt_at (i := npv + 1377) (by decide +kernel) rfl
set_option maxRecDepth 100000 in
theorem wk1378 : Cond.fieldLink RX12 45 (tOf 12 20).1 (tOf 12 20).2.1 (tOf 12 20).2.2.1 ∈ gt := gt_at (i := npv + 1378) (by decide +kernel) rfl
set_option maxRecDepth 100000 in
theorem wk1379 : Cond.fieldLink RX12 48 (tOf 12 21).1 (tOf 12 21).2.1 (tOf 12 21).2.2.1 ∈ gt := gt_at (i := npv + 1379) (by decide +kernel) rfl
set_option maxRecDepth 100000 in
theorem wk1380 : Cond.fieldLink RX12 51 (tOf 12 22).1 (tOf 12 22).2.1 (tOf 12 22).2.2.1 ∈ gt := gt_at (i := npv + 1380) (by decide +kernel) rfl
set_option maxRecDepth 100000 in
theorem wk1381 : Cond.fieldLink RX12 55 (tOf 12 23).1 (tOf 12 23).2.1 (tOf 12 23).2.2.1 ∈ gt := gt_at (i := npv + 1381) (by decide +kernel) rfl
set_option maxRecDepth 100000 in
theorem wk1386 : Cond.fieldLink RX12 58 (tOf 12 28).1 (tOf 12 28).2.1 (tOf 12 28).2.2.1 ∈ gt := gt_at (i := npv + 1386) (by decide +kernel) rfl
set_option maxRecDepth 100000 in
theorem wk1387 : Cond.fieldLink RX12 61 (tOf 12 29).1 (tOf 12 29).2.1 (tOf 12 29).2.2.1 ∈ gt := gt_at (i := npv + 1387) (by decide +kernel) rfl
set_option maxRecDepth 100000 in
theorem wk1388 : Cond.fieldLink RX12 64 (tOf 12 30).1 (tOf 12 30).2.1 (tOf 12 30).2.2.1 ∈ gt := gt_at (i := npv + 1388) (by decide +kernel) rfl
set_option maxRecDepth 100000 in
theorem wk1389 : Cond.fieldLink RX12 67 (tOf 12 31).1 (tOf 12 31).2.1 (tOf 12 31).2.2.1 ∈ gt := gt_at (i := npv + 1389) (by decide +kernel) rfl
set_option maxRecDepth 100000 in
theorem wk1390 : Cond.fieldLink RX12 70 (tOf 12 32).1 (tOf 12 32).2.1 (tOf 12 32).2.2.1 ∈ gt := gt_at (i := npv + 1390) (by decide +kernel) rfl
set_option maxRecDepth 100000 in
theorem wk1391 : Cond.fieldLink RX12 73 (tOf 12 33).1 (tOf 12 33).2.1 (tOf 12 33).2.2.1 ∈ gt := gt_at (i := npv + 1391) (by decide +kernel) rfl
set_option maxRecDepth 100000 in
theorem wk1392 : Cond.fieldLink RX12 76 (tOf 12 34).1 (tOf 12 34).2.1 (tOf 12 34).2.2.1 ∈ gt := gt_at (i := npv + 1392) (by decide +kernel) rfl
set_option maxRecDepth 100000 in
theorem wk1393 : Cond.fieldLink RX12 79 (tOf 12 35).1 (tOf 12 35).2.1 (tOf 12 35).2.2.1 ∈ gt := gt_at (i := npv + 1393) (by decide +kernel) rfl
set_option maxRecDepth 100000 in
theorem wk1394 : Cond.fieldLink RX12 82 (tOf 12 36).1 (tOf 12 36).2.1 (tOf 12 36).2.2.1 ∈ gt := gt_at (i := npv + 1394) (by decide +kernel) rfl
set_option maxRecDepth 100000 in
theorem wk1399 : Cond.fieldLink RX12 85 (tOf 12 41).1 (tOf 12 41).2.1 (tOf 12 41).2.2.1 ∈ gt := gt_at (i := npv + 1399) (by decide +kernel) rfl
set_option maxRecDepth 100000 in
theorem wk1400 : Cond.fieldLink RX12 88 (tOf 12 42).1 (tOf 12 42).2.1 (tOf 12 42).2.2.1 ∈ gt := gt_at (i := npv + 1400) (by decide +kernel) rfl
set_option maxRecDepth 100000 in
theorem wk1401 : Cond.fieldLink RX12 91 (tOf 12 43).1 (tOf 12 43).2.1 (tOf 12 43).2.2.1 ∈ gt := gt_at (i := npv + 1401) (by decide +kernel) rfl
set_option maxRecDepth 100000 in
theorem wk1404 : Cond.fieldLink RX12 95 (tOf 12 46).1 (tOf 12 46).2.1 (tOf 12 46).2.2.1 ∈ gt := gt_at (i := npv + 1404) (by decide +kernel) rfl
set_option maxRecDepth 100000 in
theorem wk1405 : Cond.fieldLink RX12 98 (tOf 12 47).1 (tOf 12 47).2.1 (tOf 12 47).2.2.1 ∈ gt := gt_at (i := npv + 1405) (by decide +kernel) rfl
set_option maxRecDepth 100000 in
theorem wk1406 : Cond.fieldLink RX12 101 (tOf 12 48).1 (tOf 12 48).2.1 (tOf 12 48).2.2.1 ∈ gt := gt_at (i := npv + 1406) (by decide +kernel) rfl
set_option maxRecDepth 100000 in
theorem wk1407 : Cond.fieldLink RX12 104 (tOf 12 49).1 (tOf 12 49).2.1 (tOf 12 49).2.2.1 ∈ gt := gt_at (i := npv + 1407) (by decide +kernel) rfl
set_option maxRecDepth 100000 in
theorem wk1408 : Cond.fieldLink RX12 107 (tOf 12 50).1 (tOf 12 50).2.1 (tOf 12 50).2.2.1 ∈ gt := gt_at (i := npv + 1408) (by decide +kernel) rfl
set_option maxRecDepth 100000 in
theorem wk1409 : Cond.fieldLink RX12 110 (tOf 12 51).1 (tOf 12 51).2.1 (tOf 12 51).2.2.1 ∈ gt := gt_at (i := npv + 1409) (by decide +kernel) rfl
set_option maxRecDepth 100000 in
theorem wk1410 : Cond.fieldLink RX12 113 (tOf 12 52).1 (tOf 12 52).2.1 (tOf 12 52).2.2.1 ∈ gt := gt_at (i := npv + 1410) (by decide +kernel) rfl
set_option maxRecDepth 100000 in
theorem wk1411 : Cond.fieldLink RX12 116 (tOf 12 53).1 (tOf 12 53).2.1 (tOf 12 53).2.2.1 ∈ gt := gt_at (i := npv + 1411) (by decide +kernel) rfl
set_option maxRecDepth 100000 in
theorem wk1412 : Cond.fieldLink RX12 119 (tOf 12 54).1 (tOf 12 54).2.1 (tOf 12 54).2.2.1 ∈ gt := gt_at (i := npv + 1412) (by decide +kernel) rfl
set_option maxRecDepth 100000 in
theorem wk1413 : Cond.fieldLink RX12 122 (tOf 12 55).1 (tOf 12 55).2.1 (tOf 12 55).2.2.1 ∈ gt := gt_at (i := npv + 1413) (by decide +kernel) rfl
set_option maxRecDepth 100000 in
theorem wk1414 : Cond.fieldLink RX12 125 (tOf 12 56).1 (tOf 12 56).2.1 (tOf 12 56).2.2.1 ∈ gt := gt_at (i := npv + 1414) (by decide +kernel) rfl
set_option maxRecDepth 100000 in
theorem wk1415 : Cond.fieldLink RX12 128 (tOf 12 57).1 (tOf 12 57).2.1 (tOf 12 57).2.2.1 ∈ gt := gt_at (i := npv + 1415) (by decide +kernel) rfl
set_option maxRecDepth 100000 in
theorem wk1416 : Cond.fieldLink RX12 131 (tOf 12 58).1 (tOf 12 58).2.1 (tOf 12 58).2.2.1 ∈ gt := gt_at (i := npv + 1416) (by decide +kernel) rfl
set_option maxRecDepth 100000 in
theorem wk1417 : Cond.fieldLink RX12 134 (tOf 12 59).1 (tOf 12 59).2.1 (tOf 12 59).2.2.1 ∈ gt := gt_at (i := npv + 1417) (by decide +kernel) rfl
set_option maxRecDepth 100000 in
theorem wk1418 : Cond.fieldLink RX12 137 (tOf 12 60).1 (tOf 12 60).2.1 (tOf 12 60).2.2.1 ∈ gt := gt_at (i := npv + 1418) (by decide +kernel) rfl
set_option maxRecDepth 100000 in
theorem wk1419 : Cond.fieldLink RX12 140 (tOf 12 61).1 (tOf 12 61).2.1 (tOf 12 61).2.2.1 ∈ gt := gt_at (i := npv + 1419) (by decide +kernel) rfl
set_option maxRecDepth 100000 in
theorem wk1420 : Cond.fieldLink RX12 143 (tOf 12 62).1 (tOf 12 62).2.1 (tOf 12 62).2.2.1 ∈ gt := gt_at (i := npv + 1420) (by decide +kernel) rfl
set_option maxRecDepth 100000 in
theorem wk1421 : Cond.fieldLink RX12 146 (tOf 12 63).1 (tOf 12 63).2.1 (tOf 12 63).2.2.1 ∈ gt := gt_at (i := npv + 1421) (by decide +kernel) rfl
set_option maxRecDepth 100000 in
theorem wk1422 : Cond.fieldLink RX12 149 (tOf 12 64).1 (tOf 12 64).2.1 (tOf 12 64).2.2.1 ∈ gt := gt_at (i := npv + 1422) (by decide +kernel) rfl
set_option maxRecDepth 100000 in
theorem wk1423 : Cond.fieldLink RX12 152 (tOf 12 65).1 (tOf 12 65).2.1 (tOf 12 65).2.2.1 ∈ gt := gt_at (i := npv + 1423) (by decide +kernel) rfl
set_option maxRecDepth 100000 in
theorem wk1424 : Cond.fieldLink RX12 155 (tOf 12 66).1 (tOf 12 66).2.1 (tOf 12 66).2.2.1 ∈ gt := gt_at (i := npv + 1424) (by decide +kernel) rfl
set_option maxRecDepth 100000 in
theorem wk1425 : Cond.fieldLink RX12 158 (tOf 12 67).1 (tOf 12 67).2.1 (tOf 12 67).2.2.1 ∈ gt := gt_at (i := npv + 1425) (by decide +kernel) rfl
set_option maxRecDepth 100000 in
theorem wk1432 : Cond.fieldLink RX12 161 (tOf 12 74).1 (tOf 12 74).2.1 (tOf 12 74).2.2.1 ∈ gt := gt_at (i := npv + 1432) (by decide +kernel) rfl
set_option maxRecDepth 100000 in
theorem wk1433 : Cond.fieldLink RX12 164 (tOf 12 75).1 (tOf 12 75).2.1 (tOf 12 75).2.2.1 ∈ gt := gt_at (i := npv + 1433) (by decide +kernel) rfl
set_option maxRecDepth 100000 in
theorem wk1434 : Cond.fieldLink RX12 167 (tOf 12 76).1 (tOf 12 76).2.1 (tOf 12 76).2.2.1 ∈ gt := gt_at (i := npv + 1434) (by decide +kernel) rfl
set_option maxRecDepth 100000 in
theorem wk1435 : Cond.fieldLink RX12 170 (tOf 12 77).1 (tOf 12 77).2.1 (tOf 12 77).2.2.1 ∈ gt := gt_at (i := npv + 1435) (by decide +kernel) rfl
set_option maxRecDepth 100000 in
theorem wk1438 : Cond.fieldLink RX12 173 (tOf 12 80).1 (tOf 12 80).2.1 (tOf 12 80).2.2.1 ∈ gt := gt_at (i := npv + 1438) (by decide +kernel) rfl
set_option maxRecDepth 100000 in
theorem wk1439 : Cond.fieldLink RX12 176 (tOf 12 81).1 (tOf 12 81).2.1 (tOf 12 81).2.2.1 ∈ gt := gt_at (i := npv + 1439) (by decide +kernel) rfl
set_option maxRecDepth 100000 in
theorem wk1440 : Cond.fieldLink RX12 179 (tOf 12 82).1 (tOf 12 82).2.1 (tOf 12 82).2.2.1 ∈ gt := gt_at (i := npv + 1440) (by decide +kernel) rfl
set_option maxRecDepth 100000 in
theorem wk1441 : Cond.fieldLink RX12 182 (tOf 12 83).1 (tOf 12 83).2.1 (tOf 12 83).2.2.1 ∈ gt := gt_at (i := npv + 1441) (by decide +kernel) rfl
set_option maxRecDepth 100000 in
theorem wk1442 : Cond.fieldLink RX12 185 (tOf 12 84).1 (tOf 12 84).2.1 (tOf 12 84).2.2.1 ∈ gt := gt_at (i := npv + 1442) (by decide +kernel) rfl
set_option maxRecDepth 100000 in
theorem wk1443 : Cond.fieldLink RX12 188 (tOf 12 85).1 (tOf 12 85).2.1 (tOf 12 85).2.2.1 ∈ gt := gt_at (i := npv + 1443) (by decide +kernel) rfl
set_option maxRecDepth 100000 in
theorem wk1444 : Cond.fieldLink RX12 191 (tOf 12 86).1 (tOf 12 86).2.1 (tOf 12 86).2.2.1 ∈ gt := gt_at (i := npv + 1444) (by decide +kernel) rfl
set_option maxRecDepth 100000 in
theorem wk1445 : Cond.fieldLink RX12 194 (tOf 12 87).1 (tOf 12 87).2.1 (tOf 12 87).2.2.1 ∈ gt := gt_at (i := npv + 1445) (by decide +kernel) rfl
theorem dX5_init_0 : decode cX5_init 0 = .ok (.aload_n 0, 1) := by decide +kernel
theorem dX5_init_1 : decode cX5_init 1 = .ok (.invokespecial 1, 3) := by decide +kernel
theorem dX5_init_4 : decode cX5_init 4 = .ok (.aload_n 0, 1) := by decide +kernel
theorem dX5_init_5 : decode cX5_init 5 = .ok (.lconst 1, 1) := by decide +kernel
theorem dX5_init_6 : decode cX5_init 6 = .ok (.putfield 7, 3) := by decide +kernel
theorem dX5_init_9 : decode cX5_init 9 = .ok (.return_, 1) := by decide +kernel
theorem dX8_init_0 : decode cX8_init 0 = .ok (.aload_n 0, 1) := by decide +kernel
theorem dX8_init_1 : decode cX8_init 1 = .ok (.invokespecial 3, 3) := by decide +kernel
theorem dX8_init_4 : decode cX8_init 4 = .ok (.aload_n 0, 1) := by decide +kernel
theorem dX8_init_5 : decode cX8_init 5 = .ok (.bipush 16, 2) := by decide +kernel
theorem dX8_init_7 : decode cX8_init 7 = .ok (.newarray .int, 2) := by decide +kernel
theorem dX8_init_9 : decode cX8_init 9 = .ok (.putfield 9, 3) := by decide +kernel
theorem dX8_init_12 : decode cX8_init 12 = .ok (.aload_n 0, 1) := by decide +kernel
theorem dX8_init_13 : decode cX8_init 13 = .ok (.bipush 16, 2) := by decide +kernel
theorem dX8_init_15 : decode cX8_init 15 = .ok (.newarray .int, 2) := by decide +kernel
theorem dX8_init_17 : decode cX8_init 17 = .ok (.putfield 15, 3) := by decide +kernel
theorem dX8_init_20 : decode cX8_init 20 = .ok (.return_, 1) := by decide +kernel
theorem dX10_init_0 : decode cX10_init 0 = .ok (.aload_n 0, 1) := by decide +kernel
theorem dX10_init_1 : decode cX10_init 1 = .ok (.invokespecial 3, 3) := by decide +kernel
theorem dX10_init_4 : decode cX10_init 4 = .ok (.aload_n 0, 1) := by decide +kernel
theorem dX10_init_5 : decode cX10_init 5 = .ok (.iconst (-1), 1) := by decide +kernel
theorem dX10_init_6 : decode cX10_init 6 = .ok (.putfield 9, 3) := by decide +kernel
theorem dX10_init_9 : decode cX10_init 9 = .ok (.aload_n 0, 1) := by decide +kernel
theorem dX10_init_10 : decode cX10_init 10 = .ok (.sipush 1300, 3) := by decide +kernel
theorem dX10_init_13 : decode cX10_init 13 = .ok (.newarray .byte, 2) := by decide +kernel
theorem dX10_init_15 : decode cX10_init 15 = .ok (.putfield 15, 3) := by decide +kernel
theorem dX10_init_18 : decode cX10_init 18 = .ok (.aload_n 0, 1) := by decide +kernel
theorem dX10_init_19 : decode cX10_init 19 = .ok (.sipush 1301, 3) := by decide +kernel
theorem dX10_init_22 : decode cX10_init 22 = .ok (.newarray .int, 2) := by decide +kernel
theorem dX10_init_24 : decode cX10_init 24 = .ok (.putfield 19, 3) := by decide +kernel
theorem dX10_init_27 : decode cX10_init 27 = .ok (.aload_n 0, 1) := by decide +kernel
theorem dX10_init_28 : decode cX10_init 28 = .ok (.sipush 1301, 3) := by decide +kernel
theorem dX10_init_31 : decode cX10_init 31 = .ok (.newarray .int, 2) := by decide +kernel
theorem dX10_init_33 : decode cX10_init 33 = .ok (.putfield 23, 3) := by decide +kernel
theorem dX10_init_36 : decode cX10_init 36 = .ok (.aload_n 0, 1) := by decide +kernel
theorem dX10_init_37 : decode cX10_init 37 = .ok (.sipush 1301, 3) := by decide +kernel
theorem dX10_init_40 : decode cX10_init 40 = .ok (.newarray .long, 2) := by decide +kernel
theorem dX10_init_42 : decode cX10_init 42 = .ok (.putfield 26, 3) := by decide +kernel
theorem dX10_init_45 : decode cX10_init 45 = .ok (.return_, 1) := by decide +kernel
theorem dX1_init_0 : decode cX1_init 0 = .ok (.aload_n 0, 1) := by decide +kernel
theorem dX1_init_1 : decode cX1_init 1 = .ok (.invokespecial 3, 3) := by decide +kernel
theorem dX1_init_4 : decode cX1_init 4 = .ok (.aload_n 0, 1) := by decide +kernel
theorem dX1_init_5 : decode cX1_init 5 = .ok (.bipush 6, 2) := by decide +kernel
theorem dX1_init_7 : decode cX1_init 7 = .ok (.newarray .long, 2) := by decide +kernel
theorem dX1_init_9 : decode cX1_init 9 = .ok (.putfield 9, 3) := by decide +kernel
theorem dX1_init_12 : decode cX1_init 12 = .ok (.aload_n 0, 1) := by decide +kernel
theorem dX1_init_13 : decode cX1_init 13 = .ok (.bipush 6, 2) := by decide +kernel
theorem dX1_init_15 : decode cX1_init 15 = .ok (.newarray .int, 2) := by decide +kernel
theorem dX1_init_17 : decode cX1_init 17 = .ok (.putfield 15, 3) := by decide +kernel
theorem dX1_init_20 : decode cX1_init 20 = .ok (.aload_n 0, 1) := by decide +kernel
theorem dX1_init_21 : decode cX1_init 21 = .ok (.bipush 16, 2) := by decide +kernel
theorem dX1_init_23 : decode cX1_init 23 = .ok (.newarray .int, 2) := by decide +kernel
theorem dX1_init_25 : decode cX1_init 25 = .ok (.putfield 19, 3) := by decide +kernel
theorem dX1_init_28 : decode cX1_init 28 = .ok (.aload_n 0, 1) := by decide +kernel
theorem dX1_init_29 : decode cX1_init 29 = .ok (.bipush 16, 2) := by decide +kernel
theorem dX1_init_31 : decode cX1_init 31 = .ok (.newarray .int, 2) := by decide +kernel
theorem dX1_init_33 : decode cX1_init 33 = .ok (.putfield 22, 3) := by decide +kernel
theorem dX1_init_36 : decode cX1_init 36 = .ok (.aload_n 0, 1) := by decide +kernel
theorem dX1_init_37 : decode cX1_init 37 = .ok (.bipush 16, 2) := by decide +kernel
theorem dX1_init_39 : decode cX1_init 39 = .ok (.newarray .int, 2) := by decide +kernel
theorem dX1_init_41 : decode cX1_init 41 = .ok (.putfield 25, 3) := by decide +kernel
theorem dX1_init_44 : decode cX1_init 44 = .ok (.aload_n 0, 1) := by decide +kernel
theorem dX1_init_45 : decode cX1_init 45 = .ok (.bipush 16, 2) := by decide +kernel
theorem dX1_init_47 : decode cX1_init 47 = .ok (.newarray .int, 2) := by decide +kernel
theorem dX1_init_49 : decode cX1_init 49 = .ok (.putfield 28, 3) := by decide +kernel
theorem dX1_init_52 : decode cX1_init 52 = .ok (.aload_n 0, 1) := by decide +kernel
theorem dX1_init_53 : decode cX1_init 53 = .ok (.bipush 102, 2) := by decide +kernel
theorem dX1_init_55 : decode cX1_init 55 = .ok (.newarray .int, 2) := by decide +kernel
theorem dX1_init_57 : decode cX1_init 57 = .ok (.putfield 31, 3) := by decide +kernel
theorem dX1_init_60 : decode cX1_init 60 = .ok (.aload_n 0, 1) := by decide +kernel
theorem dX1_init_61 : decode cX1_init 61 = .ok (.bipush 20, 2) := by decide +kernel
theorem dX1_init_63 : decode cX1_init 63 = .ok (.newarray .int, 2) := by decide +kernel
theorem dX1_init_65 : decode cX1_init 65 = .ok (.putfield 34, 3) := by decide +kernel
theorem dX1_init_68 : decode cX1_init 68 = .ok (.aload_n 0, 1) := by decide +kernel
theorem dX1_init_69 : decode cX1_init 69 = .ok (.bipush 20, 2) := by decide +kernel
theorem dX1_init_71 : decode cX1_init 71 = .ok (.newarray .int, 2) := by decide +kernel
theorem dX1_init_73 : decode cX1_init 73 = .ok (.putfield 37, 3) := by decide +kernel
theorem dX1_init_76 : decode cX1_init 76 = .ok (.return_, 1) := by decide +kernel
theorem dX2_init_0 : decode cX2_init 0 = .ok (.aload_n 0, 1) := by decide +kernel
theorem dX2_init_1 : decode cX2_init 1 = .ok (.invokespecial 3, 3) := by decide +kernel
theorem dX2_init_4 : decode cX2_init 4 = .ok (.aload_n 0, 1) := by decide +kernel
theorem dX2_init_5 : decode cX2_init 5 = .ok (.bipush 16, 2) := by decide +kernel
theorem dX2_init_7 : decode cX2_init 7 = .ok (.newarray .long, 2) := by decide +kernel
theorem dX2_init_9 : decode cX2_init 9 = .ok (.putfield 9, 3) := by decide +kernel
theorem dX2_init_12 : decode cX2_init 12 = .ok (.aload_n 0, 1) := by decide +kernel
theorem dX2_init_13 : decode cX2_init 13 = .ok (.bipush 20, 2) := by decide +kernel
theorem dX2_init_15 : decode cX2_init 15 = .ok (.newarray .int, 2) := by decide +kernel
theorem dX2_init_17 : decode cX2_init 17 = .ok (.putfield 15, 3) := by decide +kernel
theorem dX2_init_20 : decode cX2_init 20 = .ok (.aload_n 0, 1) := by decide +kernel
theorem dX2_init_21 : decode cX2_init 21 = .ok (.aload_n 1, 1) := by decide +kernel
theorem dX2_init_22 : decode cX2_init 22 = .ok (.putfield 19, 3) := by decide +kernel
theorem dX2_init_25 : decode cX2_init 25 = .ok (.aload_n 0, 1) := by decide +kernel
theorem dX2_init_26 : decode cX2_init 26 = .ok (.aload_n 2, 1) := by decide +kernel
theorem dX2_init_27 : decode cX2_init 27 = .ok (.putfield 23, 3) := by decide +kernel
theorem dX2_init_30 : decode cX2_init 30 = .ok (.return_, 1) := by decide +kernel
theorem dX6_init_0 : decode cX6_init 0 = .ok (.aload_n 0, 1) := by decide +kernel
theorem dX6_init_1 : decode cX6_init 1 = .ok (.invokespecial 3, 3) := by decide +kernel
theorem dX6_init_4 : decode cX6_init 4 = .ok (.aload_n 0, 1) := by decide +kernel
theorem dX6_init_5 : decode cX6_init 5 = .ok (.bipush 8, 2) := by decide +kernel
theorem dX6_init_7 : decode cX6_init 7 = .ok (.newarray .int, 2) := by decide +kernel
theorem dX6_init_9 : decode cX6_init 9 = .ok (.putfield 9, 3) := by decide +kernel
theorem dX6_init_12 : decode cX6_init 12 = .ok (.aload_n 0, 1) := by decide +kernel
theorem dX6_init_13 : decode cX6_init 13 = .ok (.bipush 8, 2) := by decide +kernel
theorem dX6_init_15 : decode cX6_init 15 = .ok (.newarray .int, 2) := by decide +kernel
theorem dX6_init_17 : decode cX6_init 17 = .ok (.putfield 15, 3) := by decide +kernel
theorem dX6_init_20 : decode cX6_init 20 = .ok (.aload_n 0, 1) := by decide +kernel
theorem dX6_init_21 : decode cX6_init 21 = .ok (.bipush 8, 2) := by decide +kernel
theorem dX6_init_23 : decode cX6_init 23 = .ok (.newarray .int, 2) := by decide +kernel
theorem dX6_init_25 : decode cX6_init 25 = .ok (.putfield 18, 3) := by decide +kernel
theorem dX6_init_28 : decode cX6_init 28 = .ok (.aload_n 0, 1) := by decide +kernel
theorem dX6_init_29 : decode cX6_init 29 = .ok (.sipush 500, 3) := by decide +kernel
theorem dX6_init_32 : decode cX6_init 32 = .ok (.newarray .int, 2) := by decide +kernel
theorem dX6_init_34 : decode cX6_init 34 = .ok (.putfield 21, 3) := by decide +kernel
theorem dX6_init_37 : decode cX6_init 37 = .ok (.aload_n 0, 1) := by decide +kernel
theorem dX6_init_38 : decode cX6_init 38 = .ok (.sipush 500, 3) := by decide +kernel
theorem dX6_init_41 : decode cX6_init 41 = .ok (.newarray .int, 2) := by decide +kernel
theorem dX6_init_43 : decode cX6_init 43 = .ok (.putfield 24, 3) := by decide +kernel
theorem dX6_init_46 : decode cX6_init 46 = .ok (.aload_n 0, 1) := by decide +kernel
theorem dX6_init_47 : decode cX6_init 47 = .ok (.bipush 50, 2) := by decide +kernel
theorem dX6_init_49 : decode cX6_init 49 = .ok (.newarray .int, 2) := by decide +kernel
theorem dX6_init_51 : decode cX6_init 51 = .ok (.putfield 27, 3) := by decide +kernel
theorem dX6_init_54 : decode cX6_init 54 = .ok (.aload_n 0, 1) := by decide +kernel
theorem dX6_init_55 : decode cX6_init 55 = .ok (.aload_n 1, 1) := by decide +kernel
theorem dX6_init_56 : decode cX6_init 56 = .ok (.putfield 30, 3) := by decide +kernel
theorem dX6_init_59 : decode cX6_init 59 = .ok (.return_, 1) := by decide +kernel
theorem dX0_init_0 : decode cX0_init 0 = .ok (.aload_n 0, 1) := by decide +kernel
theorem dX0_init_1 : decode cX0_init 1 = .ok (.invokespecial 1, 3) := by decide +kernel
theorem dX0_init_4 : decode cX0_init 4 = .ok (.aload_n 0, 1) := by decide +kernel
theorem dX0_init_5 : decode cX0_init 5 = .ok (.bipush 60, 2) := by decide +kernel
theorem dX0_init_7 : decode cX0_init 7 = .ok (.newarray .int, 2) := by decide +kernel
theorem dX0_init_9 : decode cX0_init 9 = .ok (.putfield 9, 3) := by decide +kernel
theorem dX0_init_12 : decode cX0_init 12 = .ok (.aload_n 0, 1) := by decide +kernel
theorem dX0_init_13 : decode cX0_init 13 = .ok (.bipush 60, 2) := by decide +kernel
theorem dX0_init_15 : decode cX0_init 15 = .ok (.newarray .int, 2) := by decide +kernel
theorem dX0_init_17 : decode cX0_init 17 = .ok (.putfield 13, 3) := by decide +kernel
theorem dX0_init_20 : decode cX0_init 20 = .ok (.aload_n 0, 1) := by decide +kernel
theorem dX0_init_21 : decode cX0_init 21 = .ok (.bipush 60, 2) := by decide +kernel
theorem dX0_init_23 : decode cX0_init 23 = .ok (.newarray .int, 2) := by decide +kernel
theorem dX0_init_25 : decode cX0_init 25 = .ok (.putfield 16, 3) := by decide +kernel
theorem dX0_init_28 : decode cX0_init 28 = .ok (.aload_n 0, 1) := by decide +kernel
theorem dX0_init_29 : decode cX0_init 29 = .ok (.bipush 60, 2) := by decide +kernel
theorem dX0_init_31 : decode cX0_init 31 = .ok (.newarray .int, 2) := by decide +kernel
theorem dX0_init_33 : decode cX0_init 33 = .ok (.putfield 19, 3) := by decide +kernel
theorem dX0_init_36 : decode cX0_init 36 = .ok (.return_, 1) := by decide +kernel
theorem dX4_init_0 : decode cX4_init 0 = .ok (.aload_n 0, 1) := by decide +kernel
theorem dX4_init_1 : decode cX4_init 1 = .ok (.invokespecial 3, 3) := by decide +kernel
theorem dX4_init_4 : decode cX4_init 4 = .ok (.aload_n 0, 1) := by decide +kernel
theorem dX4_init_5 : decode cX4_init 5 = .ok (.bipush 16, 2) := by decide +kernel
theorem dX4_init_7 : decode cX4_init 7 = .ok (.newarray .int, 2) := by decide +kernel
theorem dX4_init_9 : decode cX4_init 9 = .ok (.putfield 9, 3) := by decide +kernel
theorem dX4_init_12 : decode cX4_init 12 = .ok (.aload_n 0, 1) := by decide +kernel
theorem dX4_init_13 : decode cX4_init 13 = .ok (.bipush 16, 2) := by decide +kernel
theorem dX4_init_15 : decode cX4_init 15 = .ok (.newarray .int, 2) := by decide +kernel
theorem dX4_init_17 : decode cX4_init 17 = .ok (.putfield 15, 3) := by decide +kernel
theorem dX4_init_20 : decode cX4_init 20 = .ok (.aload_n 0, 1) := by decide +kernel
theorem dX4_init_21 : decode cX4_init 21 = .ok (.sipush 256, 3) := by decide +kernel
theorem dX4_init_24 : decode cX4_init 24 = .ok (.newarray .int, 2) := by decide +kernel
theorem dX4_init_26 : decode cX4_init 26 = .ok (.putfield 18, 3) := by decide +kernel
theorem dX4_init_29 : decode cX4_init 29 = .ok (.aload_n 0, 1) := by decide +kernel
theorem dX4_init_30 : decode cX4_init 30 = .ok (.bipush 16, 2) := by decide +kernel
theorem dX4_init_32 : decode cX4_init 32 = .ok (.newarray .int, 2) := by decide +kernel
theorem dX4_init_34 : decode cX4_init 34 = .ok (.putfield 21, 3) := by decide +kernel
theorem dX4_init_37 : decode cX4_init 37 = .ok (.aload_n 0, 1) := by decide +kernel
theorem dX4_init_38 : decode cX4_init 38 = .ok (.bipush 16, 2) := by decide +kernel
theorem dX4_init_40 : decode cX4_init 40 = .ok (.newarray .int, 2) := by decide +kernel
theorem dX4_init_42 : decode cX4_init 42 = .ok (.putfield 24, 3) := by decide +kernel
theorem dX4_init_45 : decode cX4_init 45 = .ok (.return_, 1) := by decide +kernel
theorem dX7_init_0 : decode cX7_init 0 = .ok (.aload_n 0, 1) := by decide +kernel
theorem dX7_init_1 : decode cX7_init 1 = .ok (.invokespecial 3, 3) := by decide +kernel
theorem dX7_init_4 : decode cX7_init 4 = .ok (.aload_n 0, 1) := by decide +kernel
theorem dX7_init_5 : decode cX7_init 5 = .ok (.bipush 16, 2) := by decide +kernel
theorem dX7_init_7 : decode cX7_init 7 = .ok (.newarray .int, 2) := by decide +kernel
theorem dX7_init_9 : decode cX7_init 9 = .ok (.putfield 9, 3) := by decide +kernel
theorem dX7_init_12 : decode cX7_init 12 = .ok (.aload_n 0, 1) := by decide +kernel
theorem dX7_init_13 : decode cX7_init 13 = .ok (.bipush 16, 2) := by decide +kernel
theorem dX7_init_15 : decode cX7_init 15 = .ok (.newarray .long, 2) := by decide +kernel
theorem dX7_init_17 : decode cX7_init 17 = .ok (.putfield 15, 3) := by decide +kernel
theorem dX7_init_20 : decode cX7_init 20 = .ok (.aload_n 0, 1) := by decide +kernel
theorem dX7_init_21 : decode cX7_init 21 = .ok (.bipush 16, 2) := by decide +kernel
theorem dX7_init_23 : decode cX7_init 23 = .ok (.newarray .long, 2) := by decide +kernel
theorem dX7_init_25 : decode cX7_init 25 = .ok (.putfield 19, 3) := by decide +kernel
theorem dX7_init_28 : decode cX7_init 28 = .ok (.aload_n 0, 1) := by decide +kernel
theorem dX7_init_29 : decode cX7_init 29 = .ok (.new 22, 3) := by decide +kernel
theorem dX7_init_32 : decode cX7_init 32 = .ok (.dup, 1) := by decide +kernel
theorem dX7_init_33 : decode cX7_init 33 = .ok (.invokespecial 24, 3) := by decide +kernel
theorem dX7_init_36 : decode cX7_init 36 = .ok (.putfield 25, 3) := by decide +kernel
theorem dX7_init_39 : decode cX7_init 39 = .ok (.aload_n 0, 1) := by decide +kernel
theorem dX7_init_40 : decode cX7_init 40 = .ok (.bipush 16, 2) := by decide +kernel
theorem dX7_init_42 : decode cX7_init 42 = .ok (.newarray .int, 2) := by decide +kernel
theorem dX7_init_44 : decode cX7_init 44 = .ok (.putfield 29, 3) := by decide +kernel
theorem dX7_init_47 : decode cX7_init 47 = .ok (.aload_n 0, 1) := by decide +kernel
theorem dX7_init_48 : decode cX7_init 48 = .ok (.bipush 16, 2) := by decide +kernel
theorem dX7_init_50 : decode cX7_init 50 = .ok (.newarray .int, 2) := by decide +kernel
theorem dX7_init_52 : decode cX7_init 52 = .ok (.putfield 32, 3) := by decide +kernel
theorem dX7_init_55 : decode cX7_init 55 = .ok (.aload_n 0, 1) := by decide +kernel
theorem dX7_init_56 : decode cX7_init 56 = .ok (.bipush 17, 2) := by decide +kernel
theorem dX7_init_58 : decode cX7_init 58 = .ok (.newarray .int, 2) := by decide +kernel
theorem dX7_init_60 : decode cX7_init 60 = .ok (.putfield 35, 3) := by decide +kernel
theorem dX7_init_63 : decode cX7_init 63 = .ok (.aload_n 0, 1) := by decide +kernel
theorem dX7_init_64 : decode cX7_init 64 = .ok (.new 22, 3) := by decide +kernel
theorem dX7_init_67 : decode cX7_init 67 = .ok (.dup, 1) := by decide +kernel
theorem dX7_init_68 : decode cX7_init 68 = .ok (.invokespecial 24, 3) := by decide +kernel
theorem dX7_init_71 : decode cX7_init 71 = .ok (.putfield 38, 3) := by decide +kernel
theorem dX7_init_74 : decode cX7_init 74 = .ok (.aload_n 0, 1) := by decide +kernel
theorem dX7_init_75 : decode cX7_init 75 = .ok (.aload_n 1, 1) := by decide +kernel
theorem dX7_init_76 : decode cX7_init 76 = .ok (.putfield 41, 3) := by decide +kernel
theorem dX7_init_79 : decode cX7_init 79 = .ok (.return_, 1) := by decide +kernel
theorem dX3_init_0 : decode cX3_init 0 = .ok (.aload_n 0, 1) := by decide +kernel
theorem dX3_init_1 : decode cX3_init 1 = .ok (.invokespecial 3, 3) := by decide +kernel
theorem dX3_init_4 : decode cX3_init 4 = .ok (.aload_n 0, 1) := by decide +kernel
theorem dX3_init_5 : decode cX3_init 5 = .ok (.bipush 16, 2) := by decide +kernel
theorem dX3_init_7 : decode cX3_init 7 = .ok (.newarray .int, 2) := by decide +kernel
theorem dX3_init_9 : decode cX3_init 9 = .ok (.putfield 9, 3) := by decide +kernel
theorem dX3_init_12 : decode cX3_init 12 = .ok (.aload_n 0, 1) := by decide +kernel
theorem dX3_init_13 : decode cX3_init 13 = .ok (.bipush 16, 2) := by decide +kernel
theorem dX3_init_15 : decode cX3_init 15 = .ok (.newarray .int, 2) := by decide +kernel
theorem dX3_init_17 : decode cX3_init 17 = .ok (.putfield 15, 3) := by decide +kernel
theorem dX3_init_20 : decode cX3_init 20 = .ok (.aload_n 0, 1) := by decide +kernel
theorem dX3_init_21 : decode cX3_init 21 = .ok (.bipush 17, 2) := by decide +kernel
theorem dX3_init_23 : decode cX3_init 23 = .ok (.newarray .int, 2) := by decide +kernel
theorem dX3_init_25 : decode cX3_init 25 = .ok (.putfield 18, 3) := by decide +kernel
theorem dX3_init_28 : decode cX3_init 28 = .ok (.return_, 1) := by decide +kernel
theorem dX9_init_0 : decode cX9_init 0 = .ok (.aload_n 0, 1) := by decide +kernel
theorem dX9_init_1 : decode cX9_init 1 = .ok (.invokespecial 3, 3) := by decide +kernel
theorem dX9_init_4 : decode cX9_init 4 = .ok (.aload_n 0, 1) := by decide +kernel
theorem dX9_init_5 : decode cX9_init 5 = .ok (.new 9, 3) := by decide +kernel
theorem dX9_init_8 : decode cX9_init 8 = .ok (.dup, 1) := by decide +kernel
theorem dX9_init_9 : decode cX9_init 9 = .ok (.invokespecial 11, 3) := by decide +kernel
theorem dX9_init_12 : decode cX9_init 12 = .ok (.putfield 12, 3) := by decide +kernel
theorem dX9_init_15 : decode cX9_init 15 = .ok (.aload_n 0, 1) := by decide +kernel
theorem dX9_init_16 : decode cX9_init 16 = .ok (.bipush 13, 2) := by decide +kernel
theorem dX9_init_18 : decode cX9_init 18 = .ok (.newarray .int, 2) := by decide +kernel
theorem dX9_init_20 : decode cX9_init 20 = .ok (.putfield 18, 3) := by decide +kernel
theorem dX9_init_23 : decode cX9_init 23 = .ok (.aload_n 0, 1) := by decide +kernel
theorem dX9_init_24 : decode cX9_init 24 = .ok (.bipush 13, 2) := by decide +kernel
theorem dX9_init_26 : decode cX9_init 26 = .ok (.newarray .int, 2) := by decide +kernel
theorem dX9_init_28 : decode cX9_init 28 = .ok (.putfield 22, 3) := by decide +kernel
theorem dX9_init_31 : decode cX9_init 31 = .ok (.aload_n 0, 1) := by decide +kernel
theorem dX9_init_32 : decode cX9_init 32 = .ok (.bipush 13, 2) := by decide +kernel
theorem dX9_init_34 : decode cX9_init 34 = .ok (.newarray .int, 2) := by decide +kernel
theorem dX9_init_36 : decode cX9_init 36 = .ok (.putfield 25, 3) := by decide +kernel
theorem dX9_init_39 : decode cX9_init 39 = .ok (.aload_n 0, 1) := by decide +kernel
theorem dX9_init_40 : decode cX9_init 40 = .ok (.sipush 169, 3) := by decide +kernel
theorem dX9_init_43 : decode cX9_init 43 = .ok (.newarray .long, 2) := by decide +kernel
theorem dX9_init_45 : decode cX9_init 45 = .ok (.putfield 28, 3) := by decide +kernel
theorem dX9_init_48 : decode cX9_init 48 = .ok (.aload_n 0, 1) := by decide +kernel
theorem dX9_init_49 : decode cX9_init 49 = .ok (.sipush 169, 3) := by decide +kernel
theorem dX9_init_52 : decode cX9_init 52 = .ok (.newarray .long, 2) := by decide +kernel
theorem dX9_init_54 : decode cX9_init 54 = .ok (.putfield 32, 3) := by decide +kernel
theorem dX9_init_57 : decode cX9_init 57 = .ok (.aload_n 0, 1) := by decide +kernel
theorem dX9_init_58 : decode cX9_init 58 = .ok (.sipush 169, 3) := by decide +kernel
theorem dX9_init_61 : decode cX9_init 61 = .ok (.newarray .int, 2) := by decide +kernel
theorem dX9_init_63 : decode cX9_init 63 = .ok (.putfield 35, 3) := by decide +kernel
theorem dX9_init_66 : decode cX9_init 66 = .ok (.aload_n 0, 1) := by decide +kernel
theorem dX9_init_67 : decode cX9_init 67 = .ok (.new 9, 3) := by decide +kernel
theorem dX9_init_70 : decode cX9_init 70 = .ok (.dup, 1) := by decide +kernel
theorem dX9_init_71 : decode cX9_init 71 = .ok (.invokespecial 11, 3) := by decide +kernel
theorem dX9_init_74 : decode cX9_init 74 = .ok (.putfield 38, 3) := by decide +kernel
theorem dX9_init_77 : decode cX9_init 77 = .ok (.return_, 1) := by decide +kernel
theorem dX11_init_0 : decode cX11_init 0 = .ok (.aload_n 0, 1) := by decide +kernel
theorem dX11_init_1 : decode cX11_init 1 = .ok (.invokespecial 3, 3) := by decide +kernel
theorem dX11_init_4 : decode cX11_init 4 = .ok (.aload_n 0, 1) := by decide +kernel
theorem dX11_init_5 : decode cX11_init 5 = .ok (.new 9, 3) := by decide +kernel
theorem dX11_init_8 : decode cX11_init 8 = .ok (.dup, 1) := by decide +kernel
theorem dX11_init_9 : decode cX11_init 9 = .ok (.invokespecial 11, 3) := by decide +kernel
theorem dX11_init_12 : decode cX11_init 12 = .ok (.putfield 12, 3) := by decide +kernel
theorem dX11_init_15 : decode cX11_init 15 = .ok (.aload_n 0, 1) := by decide +kernel
theorem dX11_init_16 : decode cX11_init 16 = .ok (.new 16, 3) := by decide +kernel
theorem dX11_init_19 : decode cX11_init 19 = .ok (.dup, 1) := by decide +kernel
theorem dX11_init_20 : decode cX11_init 20 = .ok (.invokespecial 18, 3) := by decide +kernel
theorem dX11_init_23 : decode cX11_init 23 = .ok (.putfield 19, 3) := by decide +kernel
theorem dX11_init_26 : decode cX11_init 26 = .ok (.aload_n 0, 1) := by decide +kernel
theorem dX11_init_27 : decode cX11_init 27 = .ok (.new 23, 3) := by decide +kernel
theorem dX11_init_30 : decode cX11_init 30 = .ok (.dup, 1) := by decide +kernel
theorem dX11_init_31 : decode cX11_init 31 = .ok (.aload_n 0, 1) := by decide +kernel
theorem dX11_init_32 : decode cX11_init 32 = .ok (.getfield 12, 3) := by decide +kernel
theorem dX11_init_35 : decode cX11_init 35 = .ok (.aload_n 0, 1) := by decide +kernel
theorem dX11_init_36 : decode cX11_init 36 = .ok (.getfield 19, 3) := by decide +kernel
theorem dX11_init_39 : decode cX11_init 39 = .ok (.invokespecial 25, 3) := by decide +kernel
theorem dX11_init_42 : decode cX11_init 42 = .ok (.putfield 28, 3) := by decide +kernel
theorem dX11_init_45 : decode cX11_init 45 = .ok (.aload_n 0, 1) := by decide +kernel
theorem dX11_init_46 : decode cX11_init 46 = .ok (.new 32, 3) := by decide +kernel
theorem dX11_init_49 : decode cX11_init 49 = .ok (.dup, 1) := by decide +kernel
theorem dX11_init_50 : decode cX11_init 50 = .ok (.invokespecial 34, 3) := by decide +kernel
theorem dX11_init_53 : decode cX11_init 53 = .ok (.putfield 35, 3) := by decide +kernel
theorem dX11_init_56 : decode cX11_init 56 = .ok (.aload_n 0, 1) := by decide +kernel
theorem dX11_init_57 : decode cX11_init 57 = .ok (.new 32, 3) := by decide +kernel
theorem dX11_init_60 : decode cX11_init 60 = .ok (.dup, 1) := by decide +kernel
theorem dX11_init_61 : decode cX11_init 61 = .ok (.invokespecial 34, 3) := by decide +kernel
theorem dX11_init_64 : decode cX11_init 64 = .ok (.putfield 39, 3) := by decide +kernel
theorem dX11_init_67 : decode cX11_init 67 = .ok (.aload_n 0, 1) := by decide +kernel
theorem dX11_init_68 : decode cX11_init 68 = .ok (.new 42, 3) := by decide +kernel
theorem dX11_init_71 : decode cX11_init 71 = .ok (.dup, 1) := by decide +kernel
theorem dX11_init_72 : decode cX11_init 72 = .ok (.aload_n 0, 1) := by decide +kernel
theorem dX11_init_73 : decode cX11_init 73 = .ok (.getfield 12, 3) := by decide +kernel
theorem dX11_init_76 : decode cX11_init 76 = .ok (.invokespecial 44, 3) := by decide +kernel
theorem dX11_init_79 : decode cX11_init 79 = .ok (.putfield 47, 3) := by decide +kernel
theorem dX11_init_82 : decode cX11_init 82 = .ok (.aload_n 0, 1) := by decide +kernel
theorem dX11_init_83 : decode cX11_init 83 = .ok (.new 42, 3) := by decide +kernel
theorem dX11_init_86 : decode cX11_init 86 = .ok (.dup, 1) := by decide +kernel
theorem dX11_init_87 : decode cX11_init 87 = .ok (.aload_n 0, 1) := by decide +kernel
theorem dX11_init_88 : decode cX11_init 88 = .ok (.getfield 12, 3) := by decide +kernel
theorem dX11_init_91 : decode cX11_init 91 = .ok (.invokespecial 44, 3) := by decide +kernel
theorem dX11_init_94 : decode cX11_init 94 = .ok (.putfield 51, 3) := by decide +kernel
theorem dX11_init_97 : decode cX11_init 97 = .ok (.aload_n 0, 1) := by decide +kernel
theorem dX11_init_98 : decode cX11_init 98 = .ok (.iconst 3, 1) := by decide +kernel
theorem dX11_init_99 : decode cX11_init 99 = .ok (.anewarray 32, 3) := by decide +kernel
theorem dX11_init_102 : decode cX11_init 102 = .ok (.putfield 54, 3) := by decide +kernel
theorem dX11_init_105 : decode cX11_init 105 = .ok (.iconst 0, 1) := by decide +kernel
theorem dX11_init_106 : decode cX11_init 106 = .ok (.istore_n 1, 1) := by decide +kernel
theorem dX11_init_107 : decode cX11_init 107 = .ok (.iload_n 1, 1) := by decide +kernel
theorem dX11_init_108 : decode cX11_init 108 = .ok (.iconst 3, 1) := by decide +kernel
theorem dX11_init_109 : decode cX11_init 109 = .ok (.if_icmp .ge 22, 3) := by decide +kernel
theorem dX11_init_112 : decode cX11_init 112 = .ok (.aload_n 0, 1) := by decide +kernel
theorem dX11_init_113 : decode cX11_init 113 = .ok (.getfield 54, 3) := by decide +kernel
theorem dX11_init_116 : decode cX11_init 116 = .ok (.iload_n 1, 1) := by decide +kernel
theorem dX11_init_117 : decode cX11_init 117 = .ok (.new 32, 3) := by decide +kernel
theorem dX11_init_120 : decode cX11_init 120 = .ok (.dup, 1) := by decide +kernel
theorem dX11_init_121 : decode cX11_init 121 = .ok (.invokespecial 34, 3) := by decide +kernel
theorem dX11_init_124 : decode cX11_init 124 = .ok (.aastore, 1) := by decide +kernel
theorem dX11_init_125 : decode cX11_init 125 = .ok (.iinc 1 1, 3) := by decide +kernel
theorem dX11_init_128 : decode cX11_init 128 = .ok (.goto (-21), 3) := by decide +kernel
theorem dX11_init_131 : decode cX11_init 131 = .ok (.aload_n 0, 1) := by decide +kernel
theorem dX11_init_132 : decode cX11_init 132 = .ok (.iconst 3, 1) := by decide +kernel
theorem dX11_init_133 : decode cX11_init 133 = .ok (.newarray .boolean, 2) := by decide +kernel
theorem dX11_init_135 : decode cX11_init 135 = .ok (.putfield 58, 3) := by decide +kernel
theorem dX11_init_138 : decode cX11_init 138 = .ok (.aload_n 0, 1) := by decide +kernel
theorem dX11_init_139 : decode cX11_init 139 = .ok (.new 62, 3) := by decide +kernel
theorem dX11_init_142 : decode cX11_init 142 = .ok (.dup, 1) := by decide +kernel
theorem dX11_init_143 : decode cX11_init 143 = .ok (.invokespecial 64, 3) := by decide +kernel
theorem dX11_init_146 : decode cX11_init 146 = .ok (.putfield 65, 3) := by decide +kernel
theorem dX11_init_149 : decode cX11_init 149 = .ok (.aload_n 0, 1) := by decide +kernel
theorem dX11_init_150 : decode cX11_init 150 = .ok (.new 16, 3) := by decide +kernel
theorem dX11_init_153 : decode cX11_init 153 = .ok (.dup, 1) := by decide +kernel
theorem dX11_init_154 : decode cX11_init 154 = .ok (.invokespecial 18, 3) := by decide +kernel
theorem dX11_init_157 : decode cX11_init 157 = .ok (.putfield 69, 3) := by decide +kernel
theorem dX11_init_160 : decode cX11_init 160 = .ok (.new 72, 3) := by decide +kernel
theorem dX11_init_163 : decode cX11_init 163 = .ok (.dup, 1) := by decide +kernel
theorem dX11_init_164 : decode cX11_init 164 = .ok (.invokespecial 74, 3) := by decide +kernel
theorem dX11_init_167 : decode cX11_init 167 = .ok (.astore_n 1, 1) := by decide +kernel
theorem dX11_init_168 : decode cX11_init 168 = .ok (.aload_n 0, 1) := by decide +kernel
theorem dX11_init_169 : decode cX11_init 169 = .ok (.new 75, 3) := by decide +kernel
theorem dX11_init_172 : decode cX11_init 172 = .ok (.dup, 1) := by decide +kernel
theorem dX11_init_173 : decode cX11_init 173 = .ok (.aload_n 1, 1) := by decide +kernel
theorem dX11_init_174 : decode cX11_init 174 = .ok (.invokespecial 77, 3) := by decide +kernel
theorem dX11_init_177 : decode cX11_init 177 = .ok (.putfield 80, 3) := by decide +kernel
theorem dX11_init_180 : decode cX11_init 180 = .ok (.aload_n 0, 1) := by decide +kernel
theorem dX11_init_181 : decode cX11_init 181 = .ok (.new 75, 3) := by decide +kernel
theorem dX11_init_184 : decode cX11_init 184 = .ok (.dup, 1) := by decide +kernel
theorem dX11_init_185 : decode cX11_init 185 = .ok (.aload_n 1, 1) := by decide +kernel
theorem dX11_init_186 : decode cX11_init 186 = .ok (.invokespecial 77, 3) := by decide +kernel
theorem dX11_init_189 : decode cX11_init 189 = .ok (.putfield 84, 3) := by decide +kernel
theorem dX11_init_192 : decode cX11_init 192 = .ok (.aload_n 0, 1) := by decide +kernel
theorem dX11_init_193 : decode cX11_init 193 = .ok (.new 87, 3) := by decide +kernel
theorem dX11_init_196 : decode cX11_init 196 = .ok (.dup, 1) := by decide +kernel
theorem dX11_init_197 : decode cX11_init 197 = .ok (.invokespecial 89, 3) := by decide +kernel
theorem dX11_init_200 : decode cX11_init 200 = .ok (.putfield 90, 3) := by decide +kernel
theorem dX11_init_203 : decode cX11_init 203 = .ok (.aload_n 0, 1) := by decide +kernel
theorem dX11_init_204 : decode cX11_init 204 = .ok (.new 94, 3) := by decide +kernel
theorem dX11_init_207 : decode cX11_init 207 = .ok (.dup, 1) := by decide +kernel
theorem dX11_init_208 : decode cX11_init 208 = .ok (.invokespecial 96, 3) := by decide +kernel
theorem dX11_init_211 : decode cX11_init 211 = .ok (.putfield 97, 3) := by decide +kernel
theorem dX11_init_214 : decode cX11_init 214 = .ok (.aload_n 0, 1) := by decide +kernel
theorem dX11_init_215 : decode cX11_init 215 = .ok (.new 101, 3) := by decide +kernel
theorem dX11_init_218 : decode cX11_init 218 = .ok (.dup, 1) := by decide +kernel
theorem dX11_init_219 : decode cX11_init 219 = .ok (.invokespecial 103, 3) := by decide +kernel
theorem dX11_init_222 : decode cX11_init 222 = .ok (.putfield 104, 3) := by decide +kernel
theorem dX11_init_225 : decode cX11_init 225 = .ok (.return_, 1) := by decide +kernel
theorem dX12_init_0 : decode cX12_init 0 = .ok (.aload_n 0, 1) := by decide +kernel
theorem dX12_init_1 : decode cX12_init 1 = .ok (.invokespecial 1, 3) := by decide +kernel
theorem dX12_init_4 : decode cX12_init 4 = .ok (.aload_n 0, 1) := by decide +kernel
theorem dX12_init_5 : decode cX12_init 5 = .ok (.sipush 1300, 3) := by decide +kernel
theorem dX12_init_8 : decode cX12_init 8 = .ok (.newarray .int, 2) := by decide +kernel
theorem dX12_init_10 : decode cX12_init 10 = .ok (.putfield 7, 3) := by decide +kernel
theorem dX12_init_13 : decode cX12_init 13 = .ok (.aload_n 0, 1) := by decide +kernel
theorem dX12_init_14 : decode cX12_init 14 = .ok (.iconst (-1), 1) := by decide +kernel
theorem dX12_init_15 : decode cX12_init 15 = .ok (.putfield 13, 3) := by decide +kernel
theorem dX12_init_18 : decode cX12_init 18 = .ok (.aload_n 0, 1) := by decide +kernel
theorem dX12_init_19 : decode cX12_init 19 = .ok (.bipush 6, 2) := by decide +kernel
theorem dX12_init_21 : decode cX12_init 21 = .ok (.newarray .long, 2) := by decide +kernel
theorem dX12_init_23 : decode cX12_init 23 = .ok (.putfield 17, 3) := by decide +kernel
theorem dX12_init_26 : decode cX12_init 26 = .ok (.aload_n 0, 1) := by decide +kernel
theorem dX12_init_27 : decode cX12_init 27 = .ok (.bipush 16, 2) := by decide +kernel
theorem dX12_init_29 : decode cX12_init 29 = .ok (.newarray .long, 2) := by decide +kernel
theorem dX12_init_31 : decode cX12_init 31 = .ok (.putfield 21, 3) := by decide +kernel
theorem dX12_init_34 : decode cX12_init 34 = .ok (.aload_n 0, 1) := by decide +kernel
theorem dX12_init_35 : decode cX12_init 35 = .ok (.bipush 6, 2) := by decide +kernel
theorem dX12_init_37 : decode cX12_init 37 = .ok (.newarray .int, 2) := by decide +kernel
theorem dX12_init_39 : decode cX12_init 39 = .ok (.putfield 24, 3) := by decide +kernel
theorem dX12_init_42 : decode cX12_init 42 = .ok (.aload_n 0, 1) := by decide +kernel
theorem dX12_init_43 : decode cX12_init 43 = .ok (.bipush 96, 2) := by decide +kernel
theorem dX12_init_45 : decode cX12_init 45 = .ok (.newarray .int, 2) := by decide +kernel
theorem dX12_init_47 : decode cX12_init 47 = .ok (.putfield 27, 3) := by decide +kernel
theorem dX12_init_50 : decode cX12_init 50 = .ok (.aload_n 0, 1) := by decide +kernel
theorem dX12_init_51 : decode cX12_init 51 = .ok (.bipush 16, 2) := by decide +kernel
theorem dX12_init_53 : decode cX12_init 53 = .ok (.newarray .int, 2) := by decide +kernel
theorem dX12_init_55 : decode cX12_init 55 = .ok (.putfield 30, 3) := by decide +kernel
theorem dX12_init_58 : decode cX12_init 58 = .ok (.aload_n 0, 1) := by decide +kernel
theorem dX12_init_59 : decode cX12_init 59 = .ok (.bipush 16, 2) := by decide +kernel
theorem dX12_init_61 : decode cX12_init 61 = .ok (.newarray .int, 2) := by decide +kernel
theorem dX12_init_63 : decode cX12_init 63 = .ok (.putfield 33, 3) := by decide +kernel
theorem dX12_init_66 : decode cX12_init 66 = .ok (.aload_n 0, 1) := by decide +kernel
theorem dX12_init_67 : decode cX12_init 67 = .ok (.bipush 16, 2) := by decide +kernel
theorem dX12_init_69 : decode cX12_init 69 = .ok (.newarray .int, 2) := by decide +kernel
theorem dX12_init_71 : decode cX12_init 71 = .ok (.putfield 36, 3) := by decide +kernel
theorem dX12_init_74 : decode cX12_init 74 = .ok (.aload_n 0, 1) := by decide +kernel
theorem dX12_init_75 : decode cX12_init 75 = .ok (.bipush 16, 2) := by decide +kernel
theorem dX12_init_77 : decode cX12_init 77 = .ok (.newarray .int, 2) := by decide +kernel
theorem dX12_init_79 : decode cX12_init 79 = .ok (.putfield 39, 3) := by decide +kernel
theorem dX12_init_82 : decode cX12_init 82 = .ok (.aload_n 0, 1) := by decide +kernel
theorem dX12_init_83 : decode cX12_init 83 = .ok (.bipush 20, 2) := by decide +kernel
theorem dX12_init_85 : decode cX12_init 85 = .ok (.newarray .int, 2) := by decide +kernel
theorem dX12_init_87 : decode cX12_init 87 = .ok (.putfield 42, 3) := by decide +kernel
theorem dX12_init_90 : decode cX12_init 90 = .ok (.aload_n 0, 1) := by decide +kernel
theorem dX12_init_91 : decode cX12_init 91 = .ok (.bipush 20, 2) := by decide +kernel
theorem dX12_init_93 : decode cX12_init 93 = .ok (.newarray .int, 2) := by decide +kernel
theorem dX12_init_95 : decode cX12_init 95 = .ok (.putfield 45, 3) := by decide +kernel
theorem dX12_init_98 : decode cX12_init 98 = .ok (.aload_n 0, 1) := by decide +kernel
theorem dX12_init_99 : decode cX12_init 99 = .ok (.bipush 20, 2) := by decide +kernel
theorem dX12_init_101 : decode cX12_init 101 = .ok (.newarray .int, 2) := by decide +kernel
theorem dX12_init_103 : decode cX12_init 103 = .ok (.putfield 48, 3) := by decide +kernel
theorem dX12_init_106 : decode cX12_init 106 = .ok (.aload_n 0, 1) := by decide +kernel
theorem dX12_init_107 : decode cX12_init 107 = .ok (.bipush 6, 2) := by decide +kernel
theorem dX12_init_109 : decode cX12_init 109 = .ok (.newarray .boolean, 2) := by decide +kernel
theorem dX12_init_111 : decode cX12_init 111 = .ok (.putfield 51, 3) := by decide +kernel
theorem dX12_init_114 : decode cX12_init 114 = .ok (.aload_n 0, 1) := by decide +kernel
theorem dX12_init_115 : decode cX12_init 115 = .ok (.bipush 6, 2) := by decide +kernel
theorem dX12_init_117 : decode cX12_init 117 = .ok (.newarray .boolean, 2) := by decide +kernel
theorem dX12_init_119 : decode cX12_init 119 = .ok (.putfield 55, 3) := by decide +kernel
theorem dX12_init_122 : decode cX12_init 122 = .ok (.aload_n 0, 1) := by decide +kernel
theorem dX12_init_123 : decode cX12_init 123 = .ok (.bipush 6, 2) := by decide +kernel
theorem dX12_init_125 : decode cX12_init 125 = .ok (.newarray .int, 2) := by decide +kernel
theorem dX12_init_127 : decode cX12_init 127 = .ok (.putfield 58, 3) := by decide +kernel
theorem dX12_init_130 : decode cX12_init 130 = .ok (.aload_n 0, 1) := by decide +kernel
theorem dX12_init_131 : decode cX12_init 131 = .ok (.bipush 96, 2) := by decide +kernel
theorem dX12_init_133 : decode cX12_init 133 = .ok (.newarray .int, 2) := by decide +kernel
theorem dX12_init_135 : decode cX12_init 135 = .ok (.putfield 61, 3) := by decide +kernel
theorem dX12_init_138 : decode cX12_init 138 = .ok (.aload_n 0, 1) := by decide +kernel
theorem dX12_init_139 : decode cX12_init 139 = .ok (.bipush 16, 2) := by decide +kernel
theorem dX12_init_141 : decode cX12_init 141 = .ok (.newarray .int, 2) := by decide +kernel
theorem dX12_init_143 : decode cX12_init 143 = .ok (.putfield 64, 3) := by decide +kernel
theorem dX12_init_146 : decode cX12_init 146 = .ok (.aload_n 0, 1) := by decide +kernel
theorem dX12_init_147 : decode cX12_init 147 = .ok (.bipush 16, 2) := by decide +kernel
theorem dX12_init_149 : decode cX12_init 149 = .ok (.newarray .int, 2) := by decide +kernel
theorem dX12_init_151 : decode cX12_init 151 = .ok (.putfield 67, 3) := by decide +kernel
theorem dX12_init_154 : decode cX12_init 154 = .ok (.aload_n 0, 1) := by decide +kernel
theorem dX12_init_155 : decode cX12_init 155 = .ok (.bipush 16, 2) := by decide +kernel
theorem dX12_init_157 : decode cX12_init 157 = .ok (.newarray .int, 2) := by decide +kernel
theorem dX12_init_159 : decode cX12_init 159 = .ok (.putfield 70, 3) := by decide +kernel
theorem dX12_init_162 : decode cX12_init 162 = .ok (.aload_n 0, 1) := by decide +kernel
theorem dX12_init_163 : decode cX12_init 163 = .ok (.bipush 16, 2) := by decide +kernel
theorem dX12_init_165 : decode cX12_init 165 = .ok (.newarray .int, 2) := by decide +kernel
theorem dX12_init_167 : decode cX12_init 167 = .ok (.putfield 73, 3) := by decide +kernel
theorem dX12_init_170 : decode cX12_init 170 = .ok (.aload_n 0, 1) := by decide +kernel
theorem dX12_init_171 : decode cX12_init 171 = .ok (.bipush 20, 2) := by decide +kernel
theorem dX12_init_173 : decode cX12_init 173 = .ok (.newarray .int, 2) := by decide +kernel
theorem dX12_init_175 : decode cX12_init 175 = .ok (.putfield 76, 3) := by decide +kernel
theorem dX12_init_178 : decode cX12_init 178 = .ok (.aload_n 0, 1) := by decide +kernel
theorem dX12_init_179 : decode cX12_init 179 = .ok (.bipush 20, 2) := by decide +kernel
theorem dX12_init_181 : decode cX12_init 181 = .ok (.newarray .int, 2) := by decide +kernel
theorem dX12_init_183 : decode cX12_init 183 = .ok (.putfield 79, 3) := by decide +kernel
theorem dX12_init_186 : decode cX12_init 186 = .ok (.aload_n 0, 1) := by decide +kernel
theorem dX12_init_187 : decode cX12_init 187 = .ok (.bipush 6, 2) := by decide +kernel
theorem dX12_init_189 : decode cX12_init 189 = .ok (.newarray .boolean, 2) := by decide +kernel
theorem dX12_init_191 : decode cX12_init 191 = .ok (.putfield 82, 3) := by decide +kernel
theorem dX12_init_194 : decode cX12_init 194 = .ok (.aload_n 0, 1) := by decide +kernel
theorem dX12_init_195 : decode cX12_init 195 = .ok (.bipush 6, 2) := by decide +kernel
theorem dX12_init_197 : decode cX12_init 197 = .ok (.newarray .long, 2) := by decide +kernel
theorem dX12_init_199 : decode cX12_init 199 = .ok (.putfield 85, 3) := by decide +kernel
theorem dX12_init_202 : decode cX12_init 202 = .ok (.aload_n 0, 1) := by decide +kernel
theorem dX12_init_203 : decode cX12_init 203 = .ok (.bipush 16, 2) := by decide +kernel
theorem dX12_init_205 : decode cX12_init 205 = .ok (.newarray .int, 2) := by decide +kernel
theorem dX12_init_207 : decode cX12_init 207 = .ok (.putfield 88, 3) := by decide +kernel
theorem dX12_init_210 : decode cX12_init 210 = .ok (.aload_n 0, 1) := by decide +kernel
theorem dX12_init_211 : decode cX12_init 211 = .ok (.bipush 16, 2) := by decide +kernel
theorem dX12_init_213 : decode cX12_init 213 = .ok (.newarray .int, 2) := by decide +kernel
theorem dX12_init_215 : decode cX12_init 215 = .ok (.putfield 91, 3) := by decide +kernel
theorem dX12_init_218 : decode cX12_init 218 = .ok (.aload_n 0, 1) := by decide +kernel
theorem dX12_init_219 : decode cX12_init 219 = .ok (.ldc 94, 2) := by decide +kernel
theorem dX12_init_221 : decode cX12_init 221 = .ok (.newarray .int, 2) := by decide +kernel
theorem dX12_init_223 : decode cX12_init 223 = .ok (.putfield 95, 3) := by decide +kernel
theorem dX12_init_226 : decode cX12_init 226 = .ok (.aload_n 0, 1) := by decide +kernel
theorem dX12_init_227 : decode cX12_init 227 = .ok (.ldc 94, 2) := by decide +kernel
theorem dX12_init_229 : decode cX12_init 229 = .ok (.newarray .int, 2) := by decide +kernel
theorem dX12_init_231 : decode cX12_init 231 = .ok (.putfield 98, 3) := by decide +kernel
theorem dX12_init_234 : decode cX12_init 234 = .ok (.aload_n 0, 1) := by decide +kernel
theorem dX12_init_235 : decode cX12_init 235 = .ok (.ldc 94, 2) := by decide +kernel
theorem dX12_init_237 : decode cX12_init 237 = .ok (.newarray .int, 2) := by decide +kernel
theorem dX12_init_239 : decode cX12_init 239 = .ok (.putfield 101, 3) := by decide +kernel
theorem dX12_init_242 : decode cX12_init 242 = .ok (.aload_n 0, 1) := by decide +kernel
theorem dX12_init_243 : decode cX12_init 243 = .ok (.bipush 16, 2) := by decide +kernel
theorem dX12_init_245 : decode cX12_init 245 = .ok (.newarray .long, 2) := by decide +kernel
theorem dX12_init_247 : decode cX12_init 247 = .ok (.putfield 104, 3) := by decide +kernel
theorem dX12_init_250 : decode cX12_init 250 = .ok (.aload_n 0, 1) := by decide +kernel
theorem dX12_init_251 : decode cX12_init 251 = .ok (.bipush 16, 2) := by decide +kernel
theorem dX12_init_253 : decode cX12_init 253 = .ok (.newarray .long, 2) := by decide +kernel
theorem dX12_init_255 : decode cX12_init 255 = .ok (.putfield 107, 3) := by decide +kernel
theorem dX12_init_258 : decode cX12_init 258 = .ok (.aload_n 0, 1) := by decide +kernel
theorem dX12_init_259 : decode cX12_init 259 = .ok (.ldc 94, 2) := by decide +kernel
theorem dX12_init_261 : decode cX12_init 261 = .ok (.newarray .int, 2) := by decide +kernel
theorem dX12_init_263 : decode cX12_init 263 = .ok (.putfield 110, 3) := by decide +kernel
theorem dX12_init_266 : decode cX12_init 266 = .ok (.aload_n 0, 1) := by decide +kernel
theorem dX12_init_267 : decode cX12_init 267 = .ok (.bipush 16, 2) := by decide +kernel
theorem dX12_init_269 : decode cX12_init 269 = .ok (.newarray .int, 2) := by decide +kernel
theorem dX12_init_271 : decode cX12_init 271 = .ok (.putfield 113, 3) := by decide +kernel
theorem dX12_init_274 : decode cX12_init 274 = .ok (.aload_n 0, 1) := by decide +kernel
theorem dX12_init_275 : decode cX12_init 275 = .ok (.bipush 13, 2) := by decide +kernel
theorem dX12_init_277 : decode cX12_init 277 = .ok (.newarray .int, 2) := by decide +kernel
theorem dX12_init_279 : decode cX12_init 279 = .ok (.putfield 116, 3) := by decide +kernel
theorem dX12_init_282 : decode cX12_init 282 = .ok (.aload_n 0, 1) := by decide +kernel
theorem dX12_init_283 : decode cX12_init 283 = .ok (.bipush 13, 2) := by decide +kernel
theorem dX12_init_285 : decode cX12_init 285 = .ok (.newarray .int, 2) := by decide +kernel
theorem dX12_init_287 : decode cX12_init 287 = .ok (.putfield 119, 3) := by decide +kernel
theorem dX12_init_290 : decode cX12_init 290 = .ok (.aload_n 0, 1) := by decide +kernel
theorem dX12_init_291 : decode cX12_init 291 = .ok (.bipush 13, 2) := by decide +kernel
theorem dX12_init_293 : decode cX12_init 293 = .ok (.newarray .long, 2) := by decide +kernel
theorem dX12_init_295 : decode cX12_init 295 = .ok (.putfield 122, 3) := by decide +kernel
theorem dX12_init_298 : decode cX12_init 298 = .ok (.aload_n 0, 1) := by decide +kernel
theorem dX12_init_299 : decode cX12_init 299 = .ok (.sipush 600, 3) := by decide +kernel
theorem dX12_init_302 : decode cX12_init 302 = .ok (.newarray .int, 2) := by decide +kernel
theorem dX12_init_304 : decode cX12_init 304 = .ok (.putfield 125, 3) := by decide +kernel
theorem dX12_init_307 : decode cX12_init 307 = .ok (.aload_n 0, 1) := by decide +kernel
theorem dX12_init_308 : decode cX12_init 308 = .ok (.sipush 600, 3) := by decide +kernel
theorem dX12_init_311 : decode cX12_init 311 = .ok (.newarray .int, 2) := by decide +kernel
theorem dX12_init_313 : decode cX12_init 313 = .ok (.putfield 128, 3) := by decide +kernel
theorem dX12_init_316 : decode cX12_init 316 = .ok (.aload_n 0, 1) := by decide +kernel
theorem dX12_init_317 : decode cX12_init 317 = .ok (.bipush 9, 2) := by decide +kernel
theorem dX12_init_319 : decode cX12_init 319 = .ok (.newarray .int, 2) := by decide +kernel
theorem dX12_init_321 : decode cX12_init 321 = .ok (.putfield 131, 3) := by decide +kernel
theorem dX12_init_324 : decode cX12_init 324 = .ok (.aload_n 0, 1) := by decide +kernel
theorem dX12_init_325 : decode cX12_init 325 = .ok (.bipush 8, 2) := by decide +kernel
theorem dX12_init_327 : decode cX12_init 327 = .ok (.newarray .int, 2) := by decide +kernel
theorem dX12_init_329 : decode cX12_init 329 = .ok (.putfield 134, 3) := by decide +kernel
theorem dX12_init_332 : decode cX12_init 332 = .ok (.aload_n 0, 1) := by decide +kernel
theorem dX12_init_333 : decode cX12_init 333 = .ok (.bipush 8, 2) := by decide +kernel
theorem dX12_init_335 : decode cX12_init 335 = .ok (.newarray .int, 2) := by decide +kernel
theorem dX12_init_337 : decode cX12_init 337 = .ok (.putfield 137, 3) := by decide +kernel
theorem dX12_init_340 : decode cX12_init 340 = .ok (.aload_n 0, 1) := by decide +kernel
theorem dX12_init_341 : decode cX12_init 341 = .ok (.sipush 600, 3) := by decide +kernel
theorem dX12_init_344 : decode cX12_init 344 = .ok (.newarray .int, 2) := by decide +kernel
theorem dX12_init_346 : decode cX12_init 346 = .ok (.putfield 140, 3) := by decide +kernel
theorem dX12_init_349 : decode cX12_init 349 = .ok (.aload_n 0, 1) := by decide +kernel
theorem dX12_init_350 : decode cX12_init 350 = .ok (.sipush 600, 3) := by decide +kernel
theorem dX12_init_353 : decode cX12_init 353 = .ok (.newarray .int, 2) := by decide +kernel
theorem dX12_init_355 : decode cX12_init 355 = .ok (.putfield 143, 3) := by decide +kernel
theorem dX12_init_358 : decode cX12_init 358 = .ok (.aload_n 0, 1) := by decide +kernel
theorem dX12_init_359 : decode cX12_init 359 = .ok (.bipush 9, 2) := by decide +kernel
theorem dX12_init_361 : decode cX12_init 361 = .ok (.newarray .int, 2) := by decide +kernel
theorem dX12_init_363 : decode cX12_init 363 = .ok (.putfield 146, 3) := by decide +kernel
theorem dX12_init_366 : decode cX12_init 366 = .ok (.aload_n 0, 1) := by decide +kernel
theorem dX12_init_367 : decode cX12_init 367 = .ok (.bipush 8, 2) := by decide +kernel
theorem dX12_init_369 : decode cX12_init 369 = .ok (.newarray .int, 2) := by decide +kernel
theorem dX12_init_371 : decode cX12_init 371 = .ok (.putfield 149, 3) := by decide +kernel
theorem dX12_init_374 : decode cX12_init 374 = .ok (.aload_n 0, 1) := by decide +kernel
theorem dX12_init_375 : decode cX12_init 375 = .ok (.bipush 8, 2) := by decide +kernel
theorem dX12_init_377 : decode cX12_init 377 = .ok (.newarray .int, 2) := by decide +kernel
theorem dX12_init_379 : decode cX12_init 379 = .ok (.putfield 152, 3) := by decide +kernel
theorem dX12_init_382 : decode cX12_init 382 = .ok (.aload_n 0, 1) := by decide +kernel
theorem dX12_init_383 : decode cX12_init 383 = .ok (.sipush 600, 3) := by decide +kernel
theorem dX12_init_386 : decode cX12_init 386 = .ok (.newarray .int, 2) := by decide +kernel
theorem dX12_init_388 : decode cX12_init 388 = .ok (.putfield 155, 3) := by decide +kernel
theorem dX12_init_391 : decode cX12_init 391 = .ok (.aload_n 0, 1) := by decide +kernel
theorem dX12_init_392 : decode cX12_init 392 = .ok (.bipush 60, 2) := by decide +kernel
theorem dX12_init_394 : decode cX12_init 394 = .ok (.newarray .int, 2) := by decide +kernel
theorem dX12_init_396 : decode cX12_init 396 = .ok (.putfield 158, 3) := by decide +kernel
theorem dX12_init_399 : decode cX12_init 399 = .ok (.aload_n 0, 1) := by decide +kernel
theorem dX12_init_400 : decode cX12_init 400 = .ok (.bipush 6, 2) := by decide +kernel
theorem dX12_init_402 : decode cX12_init 402 = .ok (.newarray .int, 2) := by decide +kernel
theorem dX12_init_404 : decode cX12_init 404 = .ok (.putfield 161, 3) := by decide +kernel
theorem dX12_init_407 : decode cX12_init 407 = .ok (.aload_n 0, 1) := by decide +kernel
theorem dX12_init_408 : decode cX12_init 408 = .ok (.bipush 60, 2) := by decide +kernel
theorem dX12_init_410 : decode cX12_init 410 = .ok (.newarray .int, 2) := by decide +kernel
theorem dX12_init_412 : decode cX12_init 412 = .ok (.putfield 164, 3) := by decide +kernel
theorem dX12_init_415 : decode cX12_init 415 = .ok (.aload_n 0, 1) := by decide +kernel
theorem dX12_init_416 : decode cX12_init 416 = .ok (.bipush 60, 2) := by decide +kernel
theorem dX12_init_418 : decode cX12_init 418 = .ok (.newarray .int, 2) := by decide +kernel
theorem dX12_init_420 : decode cX12_init 420 = .ok (.putfield 167, 3) := by decide +kernel
theorem dX12_init_423 : decode cX12_init 423 = .ok (.aload_n 0, 1) := by decide +kernel
theorem dX12_init_424 : decode cX12_init 424 = .ok (.bipush 60, 2) := by decide +kernel
theorem dX12_init_426 : decode cX12_init 426 = .ok (.newarray .int, 2) := by decide +kernel
theorem dX12_init_428 : decode cX12_init 428 = .ok (.putfield 170, 3) := by decide +kernel
theorem dX12_init_431 : decode cX12_init 431 = .ok (.aload_n 0, 1) := by decide +kernel
theorem dX12_init_432 : decode cX12_init 432 = .ok (.iconst 3, 1) := by decide +kernel
theorem dX12_init_433 : decode cX12_init 433 = .ok (.newarray .boolean, 2) := by decide +kernel
theorem dX12_init_435 : decode cX12_init 435 = .ok (.putfield 173, 3) := by decide +kernel
theorem dX12_init_438 : decode cX12_init 438 = .ok (.aload_n 0, 1) := by decide +kernel
theorem dX12_init_439 : decode cX12_init 439 = .ok (.bipush 18, 2) := by decide +kernel
theorem dX12_init_441 : decode cX12_init 441 = .ok (.newarray .boolean, 2) := by decide +kernel
theorem dX12_init_443 : decode cX12_init 443 = .ok (.putfield 176, 3) := by decide +kernel
theorem dX12_init_446 : decode cX12_init 446 = .ok (.aload_n 0, 1) := by decide +kernel
theorem dX12_init_447 : decode cX12_init 447 = .ok (.iconst 3, 1) := by decide +kernel
theorem dX12_init_448 : decode cX12_init 448 = .ok (.newarray .int, 2) := by decide +kernel
theorem dX12_init_450 : decode cX12_init 450 = .ok (.putfield 179, 3) := by decide +kernel
theorem dX12_init_453 : decode cX12_init 453 = .ok (.aload_n 0, 1) := by decide +kernel
theorem dX12_init_454 : decode cX12_init 454 = .ok (.sipush 288, 3) := by decide +kernel
theorem dX12_init_457 : decode cX12_init 457 = .ok (.newarray .int, 2) := by decide +kernel
theorem dX12_init_459 : decode cX12_init 459 = .ok (.putfield 182, 3) := by decide +kernel
theorem dX12_init_462 : decode cX12_init 462 = .ok (.aload_n 0, 1) := by decide +kernel
theorem dX12_init_463 : decode cX12_init 463 = .ok (.bipush 48, 2) := by decide +kernel
theorem dX12_init_465 : decode cX12_init 465 = .ok (.newarray .int, 2) := by decide +kernel
theorem dX12_init_467 : decode cX12_init 467 = .ok (.putfield 185, 3) := by decide +kernel
theorem dX12_init_470 : decode cX12_init 470 = .ok (.aload_n 0, 1) := by decide +kernel
theorem dX12_init_471 : decode cX12_init 471 = .ok (.bipush 48, 2) := by decide +kernel
theorem dX12_init_473 : decode cX12_init 473 = .ok (.newarray .int, 2) := by decide +kernel
theorem dX12_init_475 : decode cX12_init 475 = .ok (.putfield 188, 3) := by decide +kernel
theorem dX12_init_478 : decode cX12_init 478 = .ok (.aload_n 0, 1) := by decide +kernel
theorem dX12_init_479 : decode cX12_init 479 = .ok (.bipush 48, 2) := by decide +kernel
theorem dX12_init_481 : decode cX12_init 481 = .ok (.newarray .int, 2) := by decide +kernel
theorem dX12_init_483 : decode cX12_init 483 = .ok (.putfield 191, 3) := by decide +kernel
theorem dX12_init_486 : decode cX12_init 486 = .ok (.aload_n 0, 1) := by decide +kernel
theorem dX12_init_487 : decode cX12_init 487 = .ok (.bipush 48, 2) := by decide +kernel
theorem dX12_init_489 : decode cX12_init 489 = .ok (.newarray .int, 2) := by decide +kernel
theorem dX12_init_491 : decode cX12_init 491 = .ok (.putfield 194, 3) := by decide +kernel
theorem dX12_init_494 : decode cX12_init 494 = .ok (.return_, 1) := by decide +kernel
