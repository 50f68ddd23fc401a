/-! the constructors -/
theorem w_165 : Cond.methodLink "NeverHalted" 3 Lib.objectInit ∈ ie_T := ie_in 165 (by decide +kernel)
theorem w_166 : Cond.instanceMethod Lib.objectInit ∈ ie_T := ie_in 166 (by decide +kernel)
theorem w_167 : Cond.code Lib.objectInit ⟨#[0xb1]⟩ 1 none ∈ ie_T := ie_in 167 (by decide +kernel)
theorem w_168 : Cond.classLink "NeverHalted" 9 "NeverHalted$Now" ∈ ie_T := ie_in 168 (by decide +kernel)
theorem w_169 : Cond.instantiable "NeverHalted$Now" 15 ∈ ie_T := ie_in 169 (by decide +kernel)
theorem w_170 : Cond.methodLinkNest "NeverHalted" 11 yX4_init "NeverHalted" ∈ ie_N := ie_inN 170 (by decide +kernel)
theorem w_171 : Cond.instanceMethod yX4_init ∈ ie_T := ie_in 171 (by decide +kernel)
theorem w_173 : Cond.methodLink "NeverHalted$Now" 3 Lib.objectInit ∈ ie_T := ie_in 173 (by decide +kernel)
theorem w_245 : Cond.arrayClass .int ∈ ie_T := ie_in 245 (by decide +kernel)
theorem w_246 : Cond.classLink "NeverHalted" 16 "NeverHalted$Told" ∈ ie_T := ie_in 246 (by decide +kernel)
theorem w_247 : Cond.instantiable "NeverHalted$Told" 8 ∈ ie_T := ie_in 247 (by decide +kernel)
theorem w_248 : Cond.methodLinkNest "NeverHalted" 18 yX9_init "NeverHalted" ∈ ie_N := ie_inN 248 (by decide +kernel)
theorem w_249 : Cond.instanceMethod yX9_init ∈ ie_T := ie_in 249 (by decide +kernel)
theorem w_251 : Cond.methodLink "NeverHalted$Told" 3 Lib.objectInit ∈ ie_T := ie_in 251 (by decide +kernel)
theorem w_252 : Cond.classLink "NeverHalted$Told" 15 "NeverHalted$Law" ∈ ie_T := ie_in 252 (by decide +kernel)
theorem w_253 : Cond.instantiable "NeverHalted$Law" 7 ∈ ie_T := ie_in 253 (by decide +kernel)
theorem w_254 : Cond.methodLinkNest "NeverHalted$Told" 17 yX3_init "NeverHalted" ∈ ie_N := ie_inN 254 (by decide +kernel)
theorem w_255 : Cond.instanceMethod yX3_init ∈ ie_T := ie_in 255 (by decide +kernel)
theorem w_257 : Cond.methodLink "NeverHalted$Law" 3 Lib.objectInit ∈ ie_T := ie_in 257 (by decide +kernel)
theorem w_288 : Cond.classLink "NeverHalted$Told" 25 "NeverHalted$Round" ∈ ie_T := ie_in 288 (by decide +kernel)
theorem w_289 : Cond.instantiable "NeverHalted$Round" 5 ∈ ie_T := ie_in 289 (by decide +kernel)
theorem w_290 : Cond.methodLinkNest "NeverHalted$Told" 27 yX7_init "NeverHalted" ∈ ie_N := ie_inN 290 (by decide +kernel)
theorem w_291 : Cond.instanceMethod yX7_init ∈ ie_T := ie_in 291 (by decide +kernel)
theorem w_293 : Cond.methodLink "NeverHalted$Round" 3 Lib.objectInit ∈ ie_T := ie_in 293 (by decide +kernel)
theorem w_318 : Cond.classLink "NeverHalted$Told" 32 "NeverHalted$Shifts" ∈ ie_T := ie_in 318 (by decide +kernel)
theorem w_319 : Cond.instantiable "NeverHalted$Shifts" 5 ∈ ie_T := ie_in 319 (by decide +kernel)
theorem w_320 : Cond.methodLinkNest "NeverHalted$Told" 34 yX8_init "NeverHalted" ∈ ie_N := ie_inN 320 (by decide +kernel)
theorem w_321 : Cond.instanceMethod yX8_init ∈ ie_T := ie_in 321 (by decide +kernel)
theorem w_323 : Cond.methodLink "NeverHalted$Shifts" 3 Lib.objectInit ∈ ie_T := ie_in 323 (by decide +kernel)
theorem w_375 : Cond.classLink "NeverHalted" 23 "NeverHalted$Book" ∈ ie_T := ie_in 375 (by decide +kernel)
theorem w_376 : Cond.instantiable "NeverHalted$Book" 3 ∈ ie_T := ie_in 376 (by decide +kernel)
theorem w_377 : Cond.methodLinkNest "NeverHalted" 25 yX1_init "NeverHalted" ∈ ie_N := ie_inN 377 (by decide +kernel)
theorem w_378 : Cond.instanceMethod yX1_init ∈ ie_T := ie_in 378 (by decide +kernel)
theorem w_380 : Cond.methodLink "NeverHalted$Book" 3 Lib.objectInit ∈ ie_T := ie_in 380 (by decide +kernel)
theorem w_394 : Cond.classLink "NeverHalted" 30 "NeverHalted$Past" ∈ ie_T := ie_in 394 (by decide +kernel)
theorem w_395 : Cond.instantiable "NeverHalted$Past" 2 ∈ ie_T := ie_in 395 (by decide +kernel)
theorem w_396 : Cond.methodLink "NeverHalted" 32 yX5_init ∈ ie_T := ie_in 396 (by decide +kernel)
theorem w_397 : Cond.instanceMethod yX5_init ∈ ie_T := ie_in 397 (by decide +kernel)
theorem w_399 : Cond.methodLink "NeverHalted$Past" 3 Lib.objectInit ∈ ie_T := ie_in 399 (by decide +kernel)
theorem w_400 : Cond.classLink "NeverHalted$Past" 9 "NeverHalted$Now" ∈ ie_T := ie_in 400 (by decide +kernel)
theorem w_402 : Cond.methodLinkNest "NeverHalted$Past" 17 yX4_init "NeverHalted" ∈ ie_N := ie_inN 402 (by decide +kernel)
theorem w_411 : Cond.classLink "NeverHalted" 50 "NeverHalted$Reader" ∈ ie_T := ie_in 411 (by decide +kernel)
theorem w_412 : Cond.instantiable "NeverHalted$Reader" 8 ∈ ie_T := ie_in 412 (by decide +kernel)
theorem w_413 : Cond.methodLinkNest "NeverHalted" 52 yX6_init "NeverHalted" ∈ ie_N := ie_inN 413 (by decide +kernel)
theorem w_414 : Cond.instanceMethod yX6_init ∈ ie_T := ie_in 414 (by decide +kernel)
theorem w_416 : Cond.methodLink "NeverHalted$Reader" 3 Lib.objectInit ∈ ie_T := ie_in 416 (by decide +kernel)
theorem w_417 : Cond.classLink "NeverHalted$Reader" 15 "NeverHalted$Law" ∈ ie_T := ie_in 417 (by decide +kernel)
theorem w_418 : Cond.methodLinkNest "NeverHalted$Reader" 17 yX3_init "NeverHalted" ∈ ie_N := ie_inN 418 (by decide +kernel)
theorem w_419 : Cond.classLink "NeverHalted$Reader" 22 "NeverHalted$Round" ∈ ie_T := ie_in 419 (by decide +kernel)
theorem w_420 : Cond.methodLinkNest "NeverHalted$Reader" 24 yX7_init "NeverHalted" ∈ ie_N := ie_inN 420 (by decide +kernel)
theorem w_421 : Cond.classLink "NeverHalted$Reader" 29 "NeverHalted$Shifts" ∈ ie_T := ie_in 421 (by decide +kernel)
theorem w_422 : Cond.methodLinkNest "NeverHalted$Reader" 31 yX8_init "NeverHalted" ∈ ie_N := ie_inN 422 (by decide +kernel)
theorem w_453 : Cond.classLink "NeverHalted" 57 "NeverHalted$Asked" ∈ ie_T := ie_in 453 (by decide +kernel)
theorem w_454 : Cond.instantiable "NeverHalted$Asked" 2 ∈ ie_T := ie_in 454 (by decide +kernel)
theorem w_455 : Cond.methodLinkNest "NeverHalted" 59 yX0_init "NeverHalted" ∈ ie_N := ie_inN 455 (by decide +kernel)
theorem w_456 : Cond.instanceMethod yX0_init ∈ ie_T := ie_in 456 (by decide +kernel)
theorem w_458 : Cond.methodLink "NeverHalted$Asked" 3 Lib.objectInit ∈ ie_T := ie_in 458 (by decide +kernel)
theorem w_466 : Cond.classLink "NeverHalted" 67 "NeverHalted$WatchPlan" ∈ ie_T := ie_in 466 (by decide +kernel)
theorem w_467 : Cond.instantiable "NeverHalted$WatchPlan" 6 ∈ ie_T := ie_in 467 (by decide +kernel)
theorem w_468 : Cond.methodLinkNest "NeverHalted" 69 yX10_init "NeverHalted" ∈ ie_N := ie_inN 468 (by decide +kernel)
theorem w_469 : Cond.instanceMethod yX10_init ∈ ie_T := ie_in 469 (by decide +kernel)
theorem w_471 : Cond.methodLink "NeverHalted$WatchPlan" 3 Lib.objectInit ∈ ie_T := ie_in 471 (by decide +kernel)
theorem w_493 : Cond.classLink "NeverHalted" 74 "NeverHalted$FitSearch" ∈ ie_T := ie_in 493 (by decide +kernel)
theorem w_494 : Cond.instantiable "NeverHalted$FitSearch" 7 ∈ ie_T := ie_in 494 (by decide +kernel)
theorem w_495 : Cond.methodLink "NeverHalted" 80 yX2_init ∈ ie_T := ie_in 495 (by decide +kernel)
theorem w_496 : Cond.instanceMethod yX2_init ∈ ie_T := ie_in 496 (by decide +kernel)
theorem w_498 : Cond.methodLink "NeverHalted$FitSearch" 3 Lib.objectInit ∈ ie_T := ie_in 498 (by decide +kernel)
theorem w_1187 : Cond.methodLink "NeverHaltedModel" 1 Lib.objectInit ∈ ie_T := ie_in 1187 (by decide +kernel)
theorem w_1188 : Cond.constant "NeverHaltedModel" 80 161051 ∈ ie_T := ie_in 1188 (by decide +kernel)
theorem w_172 : Cond.code yX4_init cX4_init 1 none ∈ ie_T := ie_in 172 (by decide +kernel)
theorem w_256 : Cond.code yX3_init cX3_init 1 none ∈ ie_T := ie_in 256 (by decide +kernel)
theorem w_292 : Cond.code yX7_init cX7_init 1 none ∈ ie_T := ie_in 292 (by decide +kernel)
theorem w_322 : Cond.code yX8_init cX8_init 1 none ∈ ie_T := ie_in 322 (by decide +kernel)
theorem w_250 : Cond.code yX9_init cX9_init 1 none ∈ ie_T := ie_in 250 (by decide +kernel)
theorem w_379 : Cond.code yX1_init cX1_init 1 none ∈ ie_T := ie_in 379 (by decide +kernel)
theorem w_398 : Cond.code yX5_init cX5_init 2 none ∈ ie_T := ie_in 398 (by decide +kernel)
theorem w_415 : Cond.code yX6_init cX6_init 1 none ∈ ie_T := ie_in 415 (by decide +kernel)
theorem w_457 : Cond.code yX0_init cX0_init 1 none ∈ ie_T := ie_in 457 (by decide +kernel)
theorem w_470 : Cond.code yX10_init cX10_init 1 none ∈ ie_T := ie_in 470 (by decide +kernel)
theorem w_497 : Cond.code yX2_init cX2_init 3 none ∈ ie_T := ie_in 497 (by decide +kernel)
theorem w_164 : Cond.code yX11_init cX11_init 1 none ∈ ie_T := ie_in 164 (by decide +kernel)
theorem w_1186 : Cond.code yX12_init cX12_init 1 none ∈ ie_T := List.mem_filter.mpr ⟨(List.mem_append_right _ (List.mem_append_right _ (List.mem_append_right _ (List.mem_append_right _ (List.mem_append_right _ (List.mem_append_left _ (List.mem_of_getElem? (i := 88) rfl))))))), rfl⟩
theorem kb_25 : (Int8.ofInt 25).toInt32 = 25 := by decide +kernel
theorem kb_26 : (Int8.ofInt 26).toInt32 = 26 := by decide +kernel
theorem kb_27 : (Int8.ofInt 27).toInt32 = 27 := by decide +kernel
theorem kb_28 : (Int8.ofInt 28).toInt32 = 28 := by decide +kernel
theorem kb_29 : (Int8.ofInt 29).toInt32 = 29 := by decide +kernel
theorem kb_31 : (Int8.ofInt 31).toInt32 = 31 := by decide +kernel
theorem kb_33 : (Int8.ofInt 33).toInt32 = 33 := by decide +kernel
theorem kb_34 : (Int8.ofInt 34).toInt32 = 34 := by decide +kernel
theorem kb_35 : (Int8.ofInt 35).toInt32 = 35 := by decide +kernel
theorem kb_36 : (Int8.ofInt 36).toInt32 = 36 := by decide +kernel
theorem kb_37 : (Int8.ofInt 37).toInt32 = 37 := by decide +kernel
theorem kb_38 : (Int8.ofInt 38).toInt32 = 38 := by decide +kernel
theorem kb_39 : (Int8.ofInt 39).toInt32 = 39 := by decide +kernel
theorem kb_44 : (Int8.ofInt 44).toInt32 = 44 := by decide +kernel
theorem kb_46 : (Int8.ofInt 46).toInt32 = 46 := by decide +kernel
theorem kb_49 : (Int8.ofInt 49).toInt32 = 49 := by decide +kernel
theorem kb_50 : (Int8.ofInt 50).toInt32 = 50 := by decide +kernel
theorem kb_51 : (Int8.ofInt 51).toInt32 = 51 := by decide +kernel
theorem kb_52 : (Int8.ofInt 52).toInt32 = 52 := by decide +kernel
theorem kb_53 : (Int8.ofInt 53).toInt32 = 53 := by decide +kernel
theorem kb_54 : (Int8.ofInt 54).toInt32 = 54 := by decide +kernel
theorem kb_55 : (Int8.ofInt 55).toInt32 = 55 := by decide +kernel
theorem kb_56 : (Int8.ofInt 56).toInt32 = 56 := by decide +kernel
theorem kb_58 : (Int8.ofInt 58).toInt32 = 58 := by decide +kernel
theorem kb_66 : (Int8.ofInt 66).toInt32 = 66 := by decide +kernel
theorem kb_67 : (Int8.ofInt 67).toInt32 = 67 := by decide +kernel
theorem kb_68 : (Int8.ofInt 68).toInt32 = 68 := by decide +kernel
theorem kb_69 : (Int8.ofInt 69).toInt32 = 69 := by decide +kernel
theorem kb_70 : (Int8.ofInt 70).toInt32 = 70 := by decide +kernel
theorem kb_71 : (Int8.ofInt 71).toInt32 = 71 := by decide +kernel
theorem kb_72 : (Int8.ofInt 72).toInt32 = 72 := by decide +kernel
theorem kb_73 : (Int8.ofInt 73).toInt32 = 73 := by decide +kernel
theorem kb_74 : (Int8.ofInt 74).toInt32 = 74 := by decide +kernel
theorem kb_75 : (Int8.ofInt 75).toInt32 = 75 := by decide +kernel
theorem kb_76 : (Int8.ofInt 76).toInt32 = 76 := by decide +kernel
theorem kb_77 : (Int8.ofInt 77).toInt32 = 77 := by decide +kernel
theorem kb_78 : (Int8.ofInt 78).toInt32 = 78 := by decide +kernel
theorem kb_79 : (Int8.ofInt 79).toInt32 = 79 := by decide +kernel
theorem kb_80 : (Int8.ofInt 80).toInt32 = 80 := by decide +kernel
theorem kb_81 : (Int8.ofInt 81).toInt32 = 81 := by decide +kernel
theorem kb_82 : (Int8.ofInt 82).toInt32 = 82 := by decide +kernel
theorem kb_83 : (Int8.ofInt 83).toInt32 = 83 := by decide +kernel
theorem kb_84 : (Int8.ofInt 84).toInt32 = 84 := by decide +kernel
theorem kb_85 : (Int8.ofInt 85).toInt32 = 85 := by decide +kernel
theorem kb_86 : (Int8.ofInt 86).toInt32 = 86 := by decide +kernel
theorem kb_87 : (Int8.ofInt 87).toInt32 = 87 := by decide +kernel
theorem kb_88 : (Int8.ofInt 88).toInt32 = 88 := by decide +kernel
theorem kb_89 : (Int8.ofInt 89).toInt32 = 89 := by decide +kernel
theorem kb_91 : (Int8.ofInt 91).toInt32 = 91 := by decide +kernel
theorem kb_92 : (Int8.ofInt 92).toInt32 = 92 := by decide +kernel
theorem kb_93 : (Int8.ofInt 93).toInt32 = 93 := by decide +kernel
theorem kb_94 : (Int8.ofInt 94).toInt32 = 94 := by decide +kernel
theorem kb_95 : (Int8.ofInt 95).toInt32 = 95 := by decide +kernel
theorem kb_96 : (Int8.ofInt 96).toInt32 = 96 := by decide +kernel
theorem kb_98 : (Int8.ofInt 98).toInt32 = 98 := by decide +kernel
theorem kb_100 : (Int8.ofInt 100).toInt32 = 100 := by decide +kernel
theorem kb_101 : (Int8.ofInt 101).toInt32 = 101 := by decide +kernel
theorem kb_102 : (Int8.ofInt 102).toInt32 = 102 := by decide +kernel
theorem kb_104 : (Int8.ofInt 104).toInt32 = 104 := by decide +kernel
theorem kb_105 : (Int8.ofInt 105).toInt32 = 105 := by decide +kernel
theorem kb_107 : (Int8.ofInt 107).toInt32 = 107 := by decide +kernel
theorem kb_108 : (Int8.ofInt 108).toInt32 = 108 := by decide +kernel
theorem kb_109 : (Int8.ofInt 109).toInt32 = 109 := by decide +kernel
theorem kb_110 : (Int8.ofInt 110).toInt32 = 110 := by decide +kernel
theorem kb_111 : (Int8.ofInt 111).toInt32 = 111 := by decide +kernel
theorem kb_114 : (Int8.ofInt 114).toInt32 = 114 := by decide +kernel
theorem kb_115 : (Int8.ofInt 115).toInt32 = 115 := by decide +kernel
theorem kb_116 : (Int8.ofInt 116).toInt32 = 116 := by decide +kernel
theorem kb_118 : (Int8.ofInt 118).toInt32 = 118 := by decide +kernel
theorem kb_119 : (Int8.ofInt 119).toInt32 = 119 := by decide +kernel
theorem kb_121 : (Int8.ofInt 121).toInt32 = 121 := by decide +kernel
theorem ks_240 : (Int16.ofInt 240).toInt32 = 240 := by decide +kernel
theorem ks_401 : (Int16.ofInt 401).toInt32 = 401 := by decide +kernel
theorem ks_420 : (Int16.ofInt 420).toInt32 = 420 := by decide +kernel
theorem ks_1024 : (Int16.ofInt 1024).toInt32 = 1024 := by decide +kernel
theorem ks_1200 : (Int16.ofInt 1200).toInt32 = 1200 := by decide +kernel
theorem ks_2048 : (Int16.ofInt 2048).toInt32 = 2048 := by decide +kernel
theorem ks_2500 : (Int16.ofInt 2500).toInt32 = 2500 := by decide +kernel
abbrev mX4_init : MI := (yX4_init, cX4_init, 1, none)
theorem mf_X4_init : ie_M mX4_init 0 := ⟨w_172, w_140, by decide +kernel, by decide +kernel, by decide +kernel⟩
abbrev mX3_init : MI := (yX3_init, cX3_init, 1, none)
theorem mf_X3_init : ie_M mX3_init 0 := ⟨w_256, w_142, by decide +kernel, by decide +kernel, by decide +kernel⟩
abbrev mX7_init : MI := (yX7_init, cX7_init, 1, none)
theorem mf_X7_init : ie_M mX7_init 0 := ⟨w_292, w_143, by decide +kernel, by decide +kernel, by decide +kernel⟩
abbrev mX8_init : MI := (yX8_init, cX8_init, 1, none)
theorem mf_X8_init : ie_M mX8_init 0 := ⟨w_322, w_144, by decide +kernel, by decide +kernel, by decide +kernel⟩
abbrev mX9_init : MI := (yX9_init, cX9_init, 1, none)
theorem mf_X9_init : ie_M mX9_init 0 := ⟨w_250, w_141, by decide +kernel, by decide +kernel, by decide +kernel⟩
abbrev mX1_init : MI := (yX1_init, cX1_init, 1, none)
theorem mf_X1_init : ie_M mX1_init 0 := ⟨w_379, w_145, by decide +kernel, by decide +kernel, by decide +kernel⟩
abbrev mX5_init : MI := (yX5_init, cX5_init, 2, none)
theorem mf_X5_init : ie_M mX5_init 0 := ⟨w_398, w_146, by decide +kernel, by decide +kernel, by decide +kernel⟩
abbrev mX6_init : MI := (yX6_init, cX6_init, 1, none)
theorem mf_X6_init : ie_M mX6_init 0 := ⟨w_415, w_147, by decide +kernel, by decide +kernel, by decide +kernel⟩
abbrev mX0_init : MI := (yX0_init, cX0_init, 1, none)
theorem mf_X0_init : ie_M mX0_init 0 := ⟨w_457, w_148, by decide +kernel, by decide +kernel, by decide +kernel⟩
abbrev mX10_init : MI := (yX10_init, cX10_init, 1, none)
theorem mf_X10_init : ie_M mX10_init 0 := ⟨w_470, w_149, by decide +kernel, by decide +kernel, by decide +kernel⟩
abbrev mX2_init : MI := (yX2_init, cX2_init, 3, none)
theorem mf_X2_init : ie_M mX2_init 2 := ⟨w_497, w_150, by decide +kernel, by decide +kernel, by decide +kernel⟩
abbrev mX11_init : MI := (yX11_init, cX11_init, 1, none)
theorem mf_X11_init : ie_M mX11_init 0 := ⟨w_164, w_139, by decide +kernel, by decide +kernel, by decide +kernel⟩
abbrev mX12_init : MI := (yX12_init, cX12_init, 1, none)
theorem mf_X12_init : ie_M mX12_init 0 := ⟨w_1186, w_151, by decide +kernel, by decide +kernel, by decide +kernel⟩
