theorem kc_m8 : Int32.ofInt (-8) = (-8) := by decide
theorem kc_m1 : Int32.ofInt (-1) = (-1) := by decide
theorem kc_0 : Int32.ofInt (0) = 0 := by decide
theorem kc_1 : Int32.ofInt (1) = 1 := by decide
theorem kc_2 : Int32.ofInt (2) = 2 := by decide
theorem kc_3 : Int32.ofInt (3) = 3 := by decide
theorem kc_4 : Int32.ofInt (4) = 4 := by decide
theorem kc_5 : Int32.ofInt (5) = 5 := by decide
theorem kb_m6 : (Int8.ofInt (-6)).toInt32 = (-6) := by decide
theorem kb_m5 : (Int8.ofInt (-5)).toInt32 = (-5) := by decide
theorem kb_m3 : (Int8.ofInt (-3)).toInt32 = (-3) := by decide
theorem kb_m2 : (Int8.ofInt (-2)).toInt32 = (-2) := by decide
theorem kb_6 : (Int8.ofInt (6)).toInt32 = 6 := by decide
theorem kb_7 : (Int8.ofInt (7)).toInt32 = 7 := by decide
theorem kb_8 : (Int8.ofInt (8)).toInt32 = 8 := by decide
theorem kb_9 : (Int8.ofInt (9)).toInt32 = 9 := by decide
theorem kb_10 : (Int8.ofInt (10)).toInt32 = 10 := by decide
theorem kb_11 : (Int8.ofInt (11)).toInt32 = 11 := by decide
theorem kb_12 : (Int8.ofInt (12)).toInt32 = 12 := by decide
theorem kb_13 : (Int8.ofInt (13)).toInt32 = 13 := by decide
theorem kb_14 : (Int8.ofInt (14)).toInt32 = 14 := by decide
theorem kb_15 : (Int8.ofInt (15)).toInt32 = 15 := by decide
theorem kb_16 : (Int8.ofInt (16)).toInt32 = 16 := by decide
theorem kb_17 : (Int8.ofInt (17)).toInt32 = 17 := by decide
theorem kb_18 : (Int8.ofInt (18)).toInt32 = 18 := by decide
theorem kb_19 : (Int8.ofInt (19)).toInt32 = 19 := by decide
theorem kb_20 : (Int8.ofInt (20)).toInt32 = 20 := by decide
theorem kb_21 : (Int8.ofInt (21)).toInt32 = 21 := by decide
theorem kb_22 : (Int8.ofInt (22)).toInt32 = 22 := by decide
theorem kb_23 : (Int8.ofInt (23)).toInt32 = 23 := by decide
theorem kb_24 : (Int8.ofInt (24)).toInt32 = 24 := by decide
theorem kb_25 : (Int8.ofInt (25)).toInt32 = 25 := by decide
theorem kb_26 : (Int8.ofInt (26)).toInt32 = 26 := by decide
theorem kb_27 : (Int8.ofInt (27)).toInt32 = 27 := by decide
theorem kb_28 : (Int8.ofInt (28)).toInt32 = 28 := by decide
theorem kb_29 : (Int8.ofInt (29)).toInt32 = 29 := by decide
theorem kb_30 : (Int8.ofInt (30)).toInt32 = 30 := by decide
theorem kb_31 : (Int8.ofInt (31)).toInt32 = 31 := by decide
theorem kb_32 : (Int8.ofInt (32)).toInt32 = 32 := by decide
theorem kb_33 : (Int8.ofInt (33)).toInt32 = 33 := by decide
theorem kb_34 : (Int8.ofInt (34)).toInt32 = 34 := by decide
theorem kb_35 : (Int8.ofInt (35)).toInt32 = 35 := by decide
theorem kb_36 : (Int8.ofInt (36)).toInt32 = 36 := by decide
theorem kb_37 : (Int8.ofInt (37)).toInt32 = 37 := by decide
theorem kb_38 : (Int8.ofInt (38)).toInt32 = 38 := by decide
theorem kb_39 : (Int8.ofInt (39)).toInt32 = 39 := by decide
theorem kb_40 : (Int8.ofInt (40)).toInt32 = 40 := by decide
theorem kb_41 : (Int8.ofInt (41)).toInt32 = 41 := by decide
theorem kb_42 : (Int8.ofInt (42)).toInt32 = 42 := by decide
theorem kb_43 : (Int8.ofInt (43)).toInt32 = 43 := by decide
theorem kb_44 : (Int8.ofInt (44)).toInt32 = 44 := by decide
theorem kb_45 : (Int8.ofInt (45)).toInt32 = 45 := by decide
theorem kb_46 : (Int8.ofInt (46)).toInt32 = 46 := by decide
theorem kb_47 : (Int8.ofInt (47)).toInt32 = 47 := by decide
theorem kb_48 : (Int8.ofInt (48)).toInt32 = 48 := by decide
theorem kb_49 : (Int8.ofInt (49)).toInt32 = 49 := by decide
theorem kb_50 : (Int8.ofInt (50)).toInt32 = 50 := by decide
theorem kb_51 : (Int8.ofInt (51)).toInt32 = 51 := by decide
theorem kb_52 : (Int8.ofInt (52)).toInt32 = 52 := by decide
theorem kb_53 : (Int8.ofInt (53)).toInt32 = 53 := by decide
theorem kb_54 : (Int8.ofInt (54)).toInt32 = 54 := by decide
theorem kb_55 : (Int8.ofInt (55)).toInt32 = 55 := by decide
theorem kb_56 : (Int8.ofInt (56)).toInt32 = 56 := by decide
theorem kb_57 : (Int8.ofInt (57)).toInt32 = 57 := by decide
theorem kb_58 : (Int8.ofInt (58)).toInt32 = 58 := by decide
theorem kb_59 : (Int8.ofInt (59)).toInt32 = 59 := by decide
theorem kb_60 : (Int8.ofInt (60)).toInt32 = 60 := by decide
theorem kb_61 : (Int8.ofInt (61)).toInt32 = 61 := by decide
theorem kb_62 : (Int8.ofInt (62)).toInt32 = 62 := by decide
theorem kb_63 : (Int8.ofInt (63)).toInt32 = 63 := by decide
theorem kb_64 : (Int8.ofInt (64)).toInt32 = 64 := by decide
theorem kb_65 : (Int8.ofInt (65)).toInt32 = 65 := by decide
theorem kb_66 : (Int8.ofInt (66)).toInt32 = 66 := by decide
theorem kb_67 : (Int8.ofInt (67)).toInt32 = 67 := by decide
theorem kb_68 : (Int8.ofInt (68)).toInt32 = 68 := by decide
theorem kb_69 : (Int8.ofInt (69)).toInt32 = 69 := by decide
theorem kb_70 : (Int8.ofInt (70)).toInt32 = 70 := by decide
theorem kb_71 : (Int8.ofInt (71)).toInt32 = 71 := by decide
theorem kb_72 : (Int8.ofInt (72)).toInt32 = 72 := by decide
theorem kb_73 : (Int8.ofInt (73)).toInt32 = 73 := by decide
theorem kb_74 : (Int8.ofInt (74)).toInt32 = 74 := by decide
theorem kb_75 : (Int8.ofInt (75)).toInt32 = 75 := by decide
theorem kb_76 : (Int8.ofInt (76)).toInt32 = 76 := by decide
theorem kb_77 : (Int8.ofInt (77)).toInt32 = 77 := by decide
theorem kb_78 : (Int8.ofInt (78)).toInt32 = 78 := by decide
theorem kb_79 : (Int8.ofInt (79)).toInt32 = 79 := by decide
theorem kb_80 : (Int8.ofInt (80)).toInt32 = 80 := by decide
theorem kb_81 : (Int8.ofInt (81)).toInt32 = 81 := by decide
theorem kb_82 : (Int8.ofInt (82)).toInt32 = 82 := by decide
theorem kb_83 : (Int8.ofInt (83)).toInt32 = 83 := by decide
theorem kb_84 : (Int8.ofInt (84)).toInt32 = 84 := by decide
theorem kb_85 : (Int8.ofInt (85)).toInt32 = 85 := by decide
theorem kb_86 : (Int8.ofInt (86)).toInt32 = 86 := by decide
theorem kb_87 : (Int8.ofInt (87)).toInt32 = 87 := by decide
theorem kb_88 : (Int8.ofInt (88)).toInt32 = 88 := by decide
theorem kb_89 : (Int8.ofInt (89)).toInt32 = 89 := by decide
theorem kb_90 : (Int8.ofInt (90)).toInt32 = 90 := by decide
theorem kb_91 : (Int8.ofInt (91)).toInt32 = 91 := by decide
theorem kb_92 : (Int8.ofInt (92)).toInt32 = 92 := by decide
theorem kb_93 : (Int8.ofInt (93)).toInt32 = 93 := by decide
theorem kb_94 : (Int8.ofInt (94)).toInt32 = 94 := by decide
theorem kb_95 : (Int8.ofInt (95)).toInt32 = 95 := by decide
theorem kb_96 : (Int8.ofInt (96)).toInt32 = 96 := by decide
theorem kb_97 : (Int8.ofInt (97)).toInt32 = 97 := by decide
theorem kb_98 : (Int8.ofInt (98)).toInt32 = 98 := by decide
theorem kb_99 : (Int8.ofInt (99)).toInt32 = 99 := by decide
theorem kb_100 : (Int8.ofInt (100)).toInt32 = 100 := by decide
theorem kb_101 : (Int8.ofInt (101)).toInt32 = 101 := by decide
theorem kb_102 : (Int8.ofInt (102)).toInt32 = 102 := by decide
theorem kb_103 : (Int8.ofInt (103)).toInt32 = 103 := by decide
theorem kb_104 : (Int8.ofInt (104)).toInt32 = 104 := by decide
theorem kb_105 : (Int8.ofInt (105)).toInt32 = 105 := by decide
theorem kb_106 : (Int8.ofInt (106)).toInt32 = 106 := by decide
theorem kb_107 : (Int8.ofInt (107)).toInt32 = 107 := by decide
theorem kb_108 : (Int8.ofInt (108)).toInt32 = 108 := by decide
theorem kb_109 : (Int8.ofInt (109)).toInt32 = 109 := by decide
theorem kb_110 : (Int8.ofInt (110)).toInt32 = 110 := by decide
theorem kb_111 : (Int8.ofInt (111)).toInt32 = 111 := by decide
theorem kb_112 : (Int8.ofInt (112)).toInt32 = 112 := by decide
theorem kb_113 : (Int8.ofInt (113)).toInt32 = 113 := by decide
theorem kb_114 : (Int8.ofInt (114)).toInt32 = 114 := by decide
theorem kb_115 : (Int8.ofInt (115)).toInt32 = 115 := by decide
theorem kb_116 : (Int8.ofInt (116)).toInt32 = 116 := by decide
theorem kb_117 : (Int8.ofInt (117)).toInt32 = 117 := by decide
theorem kb_118 : (Int8.ofInt (118)).toInt32 = 118 := by decide
theorem kb_119 : (Int8.ofInt (119)).toInt32 = 119 := by decide
theorem kb_120 : (Int8.ofInt (120)).toInt32 = 120 := by decide
theorem kb_121 : (Int8.ofInt (121)).toInt32 = 121 := by decide
theorem kb_122 : (Int8.ofInt (122)).toInt32 = 122 := by decide
theorem kb_123 : (Int8.ofInt (123)).toInt32 = 123 := by decide
theorem kb_124 : (Int8.ofInt (124)).toInt32 = 124 := by decide
theorem kb_125 : (Int8.ofInt (125)).toInt32 = 125 := by decide
theorem kb_126 : (Int8.ofInt (126)).toInt32 = 126 := by decide
theorem kb_127 : (Int8.ofInt (127)).toInt32 = 127 := by decide
theorem ks_128 : (Int16.ofInt (128)).toInt32 = 128 := by decide
theorem ks_129 : (Int16.ofInt (129)).toInt32 = 129 := by decide
theorem ks_130 : (Int16.ofInt (130)).toInt32 = 130 := by decide
theorem ks_255 : (Int16.ofInt (255)).toInt32 = 255 := by decide
theorem ks_256 : (Int16.ofInt (256)).toInt32 = 256 := by decide
theorem ks_257 : (Int16.ofInt (257)).toInt32 = 257 := by decide
theorem ks_258 : (Int16.ofInt (258)).toInt32 = 258 := by decide
theorem ks_259 : (Int16.ofInt (259)).toInt32 = 259 := by decide
theorem ks_260 : (Int16.ofInt (260)).toInt32 = 260 := by decide
theorem ks_261 : (Int16.ofInt (261)).toInt32 = 261 := by decide
theorem ks_262 : (Int16.ofInt (262)).toInt32 = 262 := by decide
theorem ks_263 : (Int16.ofInt (263)).toInt32 = 263 := by decide
theorem ks_264 : (Int16.ofInt (264)).toInt32 = 264 := by decide
theorem ks_265 : (Int16.ofInt (265)).toInt32 = 265 := by decide
theorem ks_266 : (Int16.ofInt (266)).toInt32 = 266 := by decide
theorem ks_267 : (Int16.ofInt (267)).toInt32 = 267 := by decide
theorem ks_271 : (Int16.ofInt (271)).toInt32 = 271 := by decide
theorem ks_272 : (Int16.ofInt (272)).toInt32 = 272 := by decide
theorem ks_275 : (Int16.ofInt (275)).toInt32 = 275 := by decide
theorem ks_276 : (Int16.ofInt (276)).toInt32 = 276 := by decide
theorem ks_278 : (Int16.ofInt (278)).toInt32 = 278 := by decide
theorem ks_279 : (Int16.ofInt (279)).toInt32 = 279 := by decide
theorem ks_280 : (Int16.ofInt (280)).toInt32 = 280 := by decide
theorem ks_283 : (Int16.ofInt (283)).toInt32 = 283 := by decide
theorem ks_400 : (Int16.ofInt (400)).toInt32 = 400 := by decide
theorem ks_401 : (Int16.ofInt (401)).toInt32 = 401 := by decide
theorem ks_800 : (Int16.ofInt (800)).toInt32 = 800 := by decide
theorem ks_999 : (Int16.ofInt (999)).toInt32 = 999 := by decide
theorem ks_1000 : (Int16.ofInt (1000)).toInt32 = 1000 := by decide
theorem ks_1001 : (Int16.ofInt (1001)).toInt32 = 1001 := by decide
theorem ks_1020 : (Int16.ofInt (1020)).toInt32 = 1020 := by decide
theorem ks_1103 : (Int16.ofInt (1103)).toInt32 = 1103 := by decide
theorem ks_2000 : (Int16.ofInt (2000)).toInt32 = 2000 := by decide
theorem ks_2400 : (Int16.ofInt (2400)).toInt32 = 2400 := by decide
theorem ks_2866 : (Int16.ofInt (2866)).toInt32 = 2866 := by decide
theorem ks_5666 : (Int16.ofInt (5666)).toInt32 = 5666 := by decide
theorem ks_6480 : (Int16.ofInt (6480)).toInt32 = 6480 := by decide
theorem ks_9331 : (Int16.ofInt (9331)).toInt32 = 9331 := by decide
theorem ks_10000 : (Int16.ofInt (10000)).toInt32 = 10000 := by decide
theorem ks_11332 : (Int16.ofInt (11332)).toInt32 = 11332 := by decide
theorem ks_12345 : (Int16.ofInt (12345)).toInt32 = 12345 := by decide
theorem kl_0 : Int64.ofNat ((0 : Fin 2) : Nat) = 0 := by decide
theorem kl_1 : Int64.ofNat ((1 : Fin 2) : Nat) = 1 := by decide
def uw_0 : List Cond := [Cond.constant RJ6 265 1431655765, Cond.constant RJ6 266 858993459, Cond.constant RJ6 267 252645135, Cond.fieldLink RX0 30 RX0 (TX0 2).2.1 (TX0 2).2.2.1, Cond.fieldLink RX0 69 RX1 (TX1 6).2.1 (TX1 6).2.2.1, Cond.fieldLink RX0 72 RX1 (TX1 5).2.1 (TX1 5).2.2.1, Cond.fieldLink RX0 15 RX0 (TX0 4).2.1 (TX0 4).2.2.1, Cond.fieldLink RX0 75 RX1 (TX1 3).2.1 (TX1 3).2.2.1, Cond.fieldLink RX0 9 RX0 (TX0 3).2.1 (TX0 3).2.2.1, Cond.fieldLink RX0 79 RX1 (TX1 4).2.1 (TX1 4).2.2.1, Cond.methodLink RX0 3 Lib.objectInit, Cond.instanceMethod Lib.objectInit, Cond.code Lib.objectInit ⟨#[0xb1]⟩ 1 none, Cond.arrayClass .long, Cond.fieldLink RX0 18 RX0 (TX0 6).2.1 (TX0 6).2.2.1, Cond.fieldLink RX0 22 RX0 (TX0 0).2.1 (TX0 0).2.2.1, Cond.fieldLink RX0 26 RX0 (TX0 1).2.1 (TX0 1).2.2.1, Cond.fieldLink RX10 58 RX10 (TX10 9).2.1 (TX10 9).2.2.1, Cond.fieldLink RX10 35 RX10 (TX10 7).2.1 (TX10 7).2.2.1, Cond.fieldLink RX10 55 RX10 (TX10 8).2.1 (TX10 8).2.2.1, Cond.fieldLink RX10 21 RX10 (TX10 3).2.1 (TX10 3).2.2.1, Cond.fieldLink RX10 30 RX10 (TX10 6).2.1 (TX10 6).2.2.1, Cond.methodLink RX10 3 Lib.objectInit, Cond.arrayClass .int, Cond.fieldLink RX10 9 RX10 (TX10 0).2.1 (TX10 0).2.2.1, Cond.fieldLink RX10 15 RX10 (TX10 1).2.1 (TX10 1).2.2.1, Cond.fieldLink RX10 18 RX10 (TX10 2).2.1 (TX10 2).2.2.1, Cond.fieldLink RX10 24 RX10 (TX10 4).2.1 (TX10 4).2.2.1, Cond.fieldLink RX10 27 RX10 (TX10 5).2.1 (TX10 5).2.2.1, Cond.classLink RX10 33 RX9, Cond.fieldLink RX10 39 RX10 (TX10 10).2.1 (TX10 10).2.2.1, Cond.fieldLink RX10 43 RX10 (TX10 13).2.1 (TX10 13).2.2.1, Cond.fieldLink RX10 46 RX10 (TX10 14).2.1 (TX10 14).2.2.1, Cond.code Lib.Math.min.name Lib.Math.min.code 2 (some .int), Cond.methodLink RX10 76 Lib.Math.min.name, Cond.static Lib.Math.min.name, Cond.initialized RJ9, Cond.code Lib.Math.max.name Lib.Math.max.code 2 (some .int), Cond.methodLink RX10 82 Lib.Math.max.name, Cond.static Lib.Math.max.name, Cond.fieldLink RX10 61 RX10 (TX10 11).2.1 (TX10 11).2.2.1, Cond.fieldLink RX11 365 RX11 (TX11 12).2.1 (TX11 12).2.2.1, Cond.fieldLink RX11 186 RX11 (TX11 13).2.1 (TX11 13).2.2.1, Cond.fieldLink RX11 10 RX11 (TX11 0).2.1 (TX11 0).2.2.1, Cond.fieldLink RX11 23 RX11 (TX11 2).2.1 (TX11 2).2.2.1, Cond.fieldLink RX11 176 RX7 (TX7 4).2.1 (TX7 4).2.2.1, Cond.fieldLink RX11 75 RX11 (TX11 9).2.1 (TX11 9).2.2.1, Cond.fieldLink RX11 82 RX11 (TX11 14).2.1 (TX11 14).2.2.1, Cond.fieldLink RX11 86 RX11 (TX11 15).2.1 (TX11 15).2.2.1, Cond.fieldLink RX12 20 RX12 (TX12 3).2.1 (TX12 3).2.2.1, Cond.fieldLink RX12 319 RX12 (TX12 28).2.1 (TX12 28).2.2.1, Cond.constantLong RX12 315 1000000000, Cond.constantLong RX12 317 (-1000000000), Cond.fieldLink RX12 214 RX12 (TX12 12).2.1 (TX12 12).2.2.1, Cond.fieldLink RX12 142 RX12 (TX12 7).2.1 (TX12 7).2.2.1, Cond.fieldLink RX12 30 RX12 (TX12 6).2.1 (TX12 6).2.2.1, Cond.fieldLink RX12 306 RX12 (TX12 27).2.1 (TX12 27).2.2.1, Cond.fieldLink RX12 7 RX12 (TX12 2).2.1 (TX12 2).2.2.1, Cond.fieldLink RX12 211 RX12 (TX12 17).2.1 (TX12 17).2.2.1, Cond.constantLong RX12 462 1103]
theorem uw_0_in : ∀ w ∈ uw_0, w ∈ lw_good := mem_goods [1090, 1091, 1092, 379, 262, 259, 382, 255, 380, 258, 376, 28, 29, 192, 384, 377, 378, 57, 53, 54, 45, 52, 35, 106, 38, 40, 42, 47, 49, 36, 59, 68, 72, 622, 620, 621, 13, 597, 623, 596, 62, 418, 419, 406, 408, 149, 415, 420, 421, 1249, 1274, 1533, 1534, 1258, 1253, 1252, 1273, 1248, 1263, 1871] rfl (by decide +kernel)
theorem ki_J6_265 : Cond.constant RJ6 265 1431655765 ∈ lw_good := uw_0_in _ (List.mem_of_getElem? (i := 0) rfl)
theorem ki_J6_266 : Cond.constant RJ6 266 858993459 ∈ lw_good := uw_0_in _ (List.mem_of_getElem? (i := 1) rfl)
theorem ki_J6_267 : Cond.constant RJ6 267 252645135 ∈ lw_good := uw_0_in _ (List.mem_of_getElem? (i := 2) rfl)
theorem kf_X0_30 : Cond.fieldLink RX0 30 RX0 (TX0 2).2.1 (TX0 2).2.2.1 ∈ lw_good := uw_0_in _ (List.mem_of_getElem? (i := 3) rfl)
theorem kf_X0_69 : Cond.fieldLink RX0 69 RX1 (TX1 6).2.1 (TX1 6).2.2.1 ∈ lw_good := uw_0_in _ (List.mem_of_getElem? (i := 4) rfl)
theorem kf_X0_72 : Cond.fieldLink RX0 72 RX1 (TX1 5).2.1 (TX1 5).2.2.1 ∈ lw_good := uw_0_in _ (List.mem_of_getElem? (i := 5) rfl)
theorem kf_X0_15 : Cond.fieldLink RX0 15 RX0 (TX0 4).2.1 (TX0 4).2.2.1 ∈ lw_good := uw_0_in _ (List.mem_of_getElem? (i := 6) rfl)
theorem kf_X0_75 : Cond.fieldLink RX0 75 RX1 (TX1 3).2.1 (TX1 3).2.2.1 ∈ lw_good := uw_0_in _ (List.mem_of_getElem? (i := 7) rfl)
theorem kf_X0_9 : Cond.fieldLink RX0 9 RX0 (TX0 3).2.1 (TX0 3).2.2.1 ∈ lw_good := uw_0_in _ (List.mem_of_getElem? (i := 8) rfl)
theorem kf_X0_79 : Cond.fieldLink RX0 79 RX1 (TX1 4).2.1 (TX1 4).2.2.1 ∈ lw_good := uw_0_in _ (List.mem_of_getElem? (i := 9) rfl)
theorem km_X0_3 : Cond.methodLink RX0 3 Lib.objectInit ∈ lw_good := uw_0_in _ (List.mem_of_getElem? (i := 10) rfl)
theorem wi_obj : Cond.instanceMethod Lib.objectInit ∈ lw_good := uw_0_in _ (List.mem_of_getElem? (i := 11) rfl)
theorem wc_obj : Cond.code Lib.objectInit ⟨#[0xb1]⟩ 1 none ∈ lw_good := uw_0_in _ (List.mem_of_getElem? (i := 12) rfl)
theorem wa_long : Cond.arrayClass .long ∈ lw_good := uw_0_in _ (List.mem_of_getElem? (i := 13) rfl)
theorem kf_X0_18 : Cond.fieldLink RX0 18 RX0 (TX0 6).2.1 (TX0 6).2.2.1 ∈ lw_good := uw_0_in _ (List.mem_of_getElem? (i := 14) rfl)
theorem kf_X0_22 : Cond.fieldLink RX0 22 RX0 (TX0 0).2.1 (TX0 0).2.2.1 ∈ lw_good := uw_0_in _ (List.mem_of_getElem? (i := 15) rfl)
theorem kf_X0_26 : Cond.fieldLink RX0 26 RX0 (TX0 1).2.1 (TX0 1).2.2.1 ∈ lw_good := uw_0_in _ (List.mem_of_getElem? (i := 16) rfl)
theorem kf_X10_58 : Cond.fieldLink RX10 58 RX10 (TX10 9).2.1 (TX10 9).2.2.1 ∈ lw_good := uw_0_in _ (List.mem_of_getElem? (i := 17) rfl)
theorem kf_X10_35 : Cond.fieldLink RX10 35 RX10 (TX10 7).2.1 (TX10 7).2.2.1 ∈ lw_good := uw_0_in _ (List.mem_of_getElem? (i := 18) rfl)
theorem kf_X10_55 : Cond.fieldLink RX10 55 RX10 (TX10 8).2.1 (TX10 8).2.2.1 ∈ lw_good := uw_0_in _ (List.mem_of_getElem? (i := 19) rfl)
theorem kf_X10_21 : Cond.fieldLink RX10 21 RX10 (TX10 3).2.1 (TX10 3).2.2.1 ∈ lw_good := uw_0_in _ (List.mem_of_getElem? (i := 20) rfl)
theorem kf_X10_30 : Cond.fieldLink RX10 30 RX10 (TX10 6).2.1 (TX10 6).2.2.1 ∈ lw_good := uw_0_in _ (List.mem_of_getElem? (i := 21) rfl)
theorem km_X10_3 : Cond.methodLink RX10 3 Lib.objectInit ∈ lw_good := uw_0_in _ (List.mem_of_getElem? (i := 22) rfl)
theorem wa_int : Cond.arrayClass .int ∈ lw_good := uw_0_in _ (List.mem_of_getElem? (i := 23) rfl)
theorem kf_X10_9 : Cond.fieldLink RX10 9 RX10 (TX10 0).2.1 (TX10 0).2.2.1 ∈ lw_good := uw_0_in _ (List.mem_of_getElem? (i := 24) rfl)
theorem kf_X10_15 : Cond.fieldLink RX10 15 RX10 (TX10 1).2.1 (TX10 1).2.2.1 ∈ lw_good := uw_0_in _ (List.mem_of_getElem? (i := 25) rfl)
theorem kf_X10_18 : Cond.fieldLink RX10 18 RX10 (TX10 2).2.1 (TX10 2).2.2.1 ∈ lw_good := uw_0_in _ (List.mem_of_getElem? (i := 26) rfl)
theorem kf_X10_24 : Cond.fieldLink RX10 24 RX10 (TX10 4).2.1 (TX10 4).2.2.1 ∈ lw_good := uw_0_in _ (List.mem_of_getElem? (i := 27) rfl)
theorem kf_X10_27 : Cond.fieldLink RX10 27 RX10 (TX10 5).2.1 (TX10 5).2.2.1 ∈ lw_good := uw_0_in _ (List.mem_of_getElem? (i := 28) rfl)
theorem kk_X10_33 : Cond.classLink RX10 33 RX9 ∈ lw_good := uw_0_in _ (List.mem_of_getElem? (i := 29) rfl)
theorem kf_X10_39 : Cond.fieldLink RX10 39 RX10 (TX10 10).2.1 (TX10 10).2.2.1 ∈ lw_good := uw_0_in _ (List.mem_of_getElem? (i := 30) rfl)
theorem kf_X10_43 : Cond.fieldLink RX10 43 RX10 (TX10 13).2.1 (TX10 13).2.2.1 ∈ lw_good := uw_0_in _ (List.mem_of_getElem? (i := 31) rfl)
theorem kf_X10_46 : Cond.fieldLink RX10 46 RX10 (TX10 14).2.1 (TX10 14).2.2.1 ∈ lw_good := uw_0_in _ (List.mem_of_getElem? (i := 32) rfl)
theorem wc_mmin : Cond.code Lib.Math.min.name Lib.Math.min.code 2 (some .int) ∈ lw_good := uw_0_in _ (List.mem_of_getElem? (i := 33) rfl)
theorem km_X10_76 : Cond.methodLink RX10 76 Lib.Math.min.name ∈ lw_good := uw_0_in _ (List.mem_of_getElem? (i := 34) rfl)
theorem wt_J9_min_7cf53 : Cond.static Lib.Math.min.name ∈ lw_good := uw_0_in _ (List.mem_of_getElem? (i := 35) rfl)
theorem wn_J9 : Cond.initialized RJ9 ∈ lw_good := uw_0_in _ (List.mem_of_getElem? (i := 36) rfl)
theorem wc_mmax : Cond.code Lib.Math.max.name Lib.Math.max.code 2 (some .int) ∈ lw_good := uw_0_in _ (List.mem_of_getElem? (i := 37) rfl)
theorem km_X10_82 : Cond.methodLink RX10 82 Lib.Math.max.name ∈ lw_good := uw_0_in _ (List.mem_of_getElem? (i := 38) rfl)
theorem wt_J9_max_7cf53 : Cond.static Lib.Math.max.name ∈ lw_good := uw_0_in _ (List.mem_of_getElem? (i := 39) rfl)
theorem kf_X10_61 : Cond.fieldLink RX10 61 RX10 (TX10 11).2.1 (TX10 11).2.2.1 ∈ lw_good := uw_0_in _ (List.mem_of_getElem? (i := 40) rfl)
theorem kf_X11_365 : Cond.fieldLink RX11 365 RX11 (TX11 12).2.1 (TX11 12).2.2.1 ∈ lw_good := uw_0_in _ (List.mem_of_getElem? (i := 41) rfl)
theorem kf_X11_186 : Cond.fieldLink RX11 186 RX11 (TX11 13).2.1 (TX11 13).2.2.1 ∈ lw_good := uw_0_in _ (List.mem_of_getElem? (i := 42) rfl)
theorem kf_X11_10 : Cond.fieldLink RX11 10 RX11 (TX11 0).2.1 (TX11 0).2.2.1 ∈ lw_good := uw_0_in _ (List.mem_of_getElem? (i := 43) rfl)
theorem kf_X11_23 : Cond.fieldLink RX11 23 RX11 (TX11 2).2.1 (TX11 2).2.2.1 ∈ lw_good := uw_0_in _ (List.mem_of_getElem? (i := 44) rfl)
theorem kf_X11_176 : Cond.fieldLink RX11 176 RX7 (TX7 4).2.1 (TX7 4).2.2.1 ∈ lw_good := uw_0_in _ (List.mem_of_getElem? (i := 45) rfl)
theorem kf_X11_75 : Cond.fieldLink RX11 75 RX11 (TX11 9).2.1 (TX11 9).2.2.1 ∈ lw_good := uw_0_in _ (List.mem_of_getElem? (i := 46) rfl)
theorem kf_X11_82 : Cond.fieldLink RX11 82 RX11 (TX11 14).2.1 (TX11 14).2.2.1 ∈ lw_good := uw_0_in _ (List.mem_of_getElem? (i := 47) rfl)
theorem kf_X11_86 : Cond.fieldLink RX11 86 RX11 (TX11 15).2.1 (TX11 15).2.2.1 ∈ lw_good := uw_0_in _ (List.mem_of_getElem? (i := 48) rfl)
theorem kf_X12_20 : Cond.fieldLink RX12 20 RX12 (TX12 3).2.1 (TX12 3).2.2.1 ∈ lw_good := uw_0_in _ (List.mem_of_getElem? (i := 49) rfl)
theorem kf_X12_319 : Cond.fieldLink RX12 319 RX12 (TX12 28).2.1 (TX12 28).2.2.1 ∈ lw_good := uw_0_in _ (List.mem_of_getElem? (i := 50) rfl)
theorem kl_X12_315 : Cond.constantLong RX12 315 1000000000 ∈ lw_good := uw_0_in _ (List.mem_of_getElem? (i := 51) rfl)
theorem kl_X12_317 : Cond.constantLong RX12 317 (-1000000000) ∈ lw_good := uw_0_in _ (List.mem_of_getElem? (i := 52) rfl)
theorem kf_X12_214 : Cond.fieldLink RX12 214 RX12 (TX12 12).2.1 (TX12 12).2.2.1 ∈ lw_good := uw_0_in _ (List.mem_of_getElem? (i := 53) rfl)
theorem kf_X12_142 : Cond.fieldLink RX12 142 RX12 (TX12 7).2.1 (TX12 7).2.2.1 ∈ lw_good := uw_0_in _ (List.mem_of_getElem? (i := 54) rfl)
theorem kf_X12_30 : Cond.fieldLink RX12 30 RX12 (TX12 6).2.1 (TX12 6).2.2.1 ∈ lw_good := uw_0_in _ (List.mem_of_getElem? (i := 55) rfl)
theorem kf_X12_306 : Cond.fieldLink RX12 306 RX12 (TX12 27).2.1 (TX12 27).2.2.1 ∈ lw_good := uw_0_in _ (List.mem_of_getElem? (i := 56) rfl)
theorem kf_X12_7 : Cond.fieldLink RX12 7 RX12 (TX12 2).2.1 (TX12 2).2.2.1 ∈ lw_good := uw_0_in _ (List.mem_of_getElem? (i := 57) rfl)
theorem kf_X12_211 : Cond.fieldLink RX12 211 RX12 (TX12 17).2.1 (TX12 17).2.2.1 ∈ lw_good := uw_0_in _ (List.mem_of_getElem? (i := 58) rfl)
theorem kl_X12_462 : Cond.constantLong RX12 462 1103 ∈ lw_good := uw_0_in _ (List.mem_of_getElem? (i := 59) rfl)
def uw_1 : List Cond := [Cond.fieldLink RX12 464 RX12 (TX12 58).2.1 (TX12 58).2.2.1, Cond.constantLong RX12 467 12345, Cond.constantLong RX12 469 1000003, Cond.fieldLink RX12 49 RX12 (TX12 18).2.1 (TX12 18).2.2.1, Cond.fieldLink RX12 46 RX12 (TX12 16).2.1 (TX12 16).2.2.1, Cond.fieldLink RX12 43 RX12 (TX12 15).2.1 (TX12 15).2.2.1, Cond.fieldLink RX12 230 RX12 (TX12 25).2.1 (TX12 25).2.2.1, Cond.fieldLink RX12 3 RX12 (TX12 0).2.1 (TX12 0).2.2.1, Cond.fieldLink RX12 11 RX12 (TX12 1).2.1 (TX12 1).2.2.1, Cond.methodLink RX12 14 Lib.objectInit, Cond.fieldLink RX12 23 RX12 (TX12 4).2.1 (TX12 4).2.2.1, Cond.arrayClass .boolean, Cond.fieldLink RX12 26 RX12 (TX12 5).2.1 (TX12 5).2.2.1, Cond.fieldLink RX12 33 RX12 (TX12 9).2.1 (TX12 9).2.2.1, Cond.fieldLink RX12 36 RX12 (TX12 10).2.1 (TX12 10).2.2.1, Cond.arrayClass .byte, Cond.fieldLink RX12 39 RX12 (TX12 13).2.1 (TX12 13).2.2.1, Cond.fieldLink RX12 52 RX12 (TX12 19).2.1 (TX12 19).2.2.1, Cond.fieldLink RX12 55 RX12 (TX12 20).2.1 (TX12 20).2.2.1, Cond.fieldLink RX12 58 RX12 (TX12 21).2.1 (TX12 21).2.2.1, Cond.fieldLink RX12 61 RX12 (TX12 30).2.1 (TX12 30).2.2.1, Cond.fieldLink RX12 64 RX12 (TX12 31).2.1 (TX12 31).2.2.1, Cond.constant RX12 67 429226, Cond.fieldLink RX12 68 RX12 (TX12 32).2.1 (TX12 32).2.2.1, Cond.fieldLink RX12 71 RX12 (TX12 33).2.1 (TX12 33).2.2.1, Cond.fieldLink RX12 74 RX12 (TX12 34).2.1 (TX12 34).2.2.1, Cond.fieldLink RX12 77 RX12 (TX12 35).2.1 (TX12 35).2.2.1, Cond.fieldLink RX12 80 RX12 (TX12 36).2.1 (TX12 36).2.2.1, Cond.fieldLink RX12 83 RX12 (TX12 37).2.1 (TX12 37).2.2.1, Cond.fieldLink RX12 86 RX12 (TX12 38).2.1 (TX12 38).2.2.1, Cond.fieldLink RX12 89 RX12 (TX12 39).2.1 (TX12 39).2.2.1, Cond.fieldLink RX12 92 RX12 (TX12 40).2.1 (TX12 40).2.2.1, Cond.fieldLink RX12 95 RX12 (TX12 41).2.1 (TX12 41).2.2.1, Cond.fieldLink RX12 98 RX12 (TX12 42).2.1 (TX12 42).2.2.1, Cond.fieldLink RX12 101 RX12 (TX12 43).2.1 (TX12 43).2.2.1, Cond.fieldLink RX12 104 RX12 (TX12 44).2.1 (TX12 44).2.2.1, Cond.fieldLink RX12 108 RX12 (TX12 45).2.1 (TX12 45).2.2.1, Cond.fieldLink RX12 111 RX12 (TX12 46).2.1 (TX12 46).2.2.1, Cond.fieldLink RX12 114 RX12 (TX12 55).2.1 (TX12 55).2.2.1, Cond.fieldLink RX12 117 RX12 (TX12 56).2.1 (TX12 56).2.2.1, Cond.fieldLink RX12 120 RX12 (TX12 57).2.1 (TX12 57).2.2.1, Cond.fieldLink RX12 217 RX12 (TX12 22).2.1 (TX12 22).2.2.1, Cond.constant RX12 229 1000000, Cond.constantLong RX12 450 1000000, Cond.fieldLink RX1 82 RX1 (TX1 5).2.1 (TX1 5).2.2.1, Cond.fieldLink RX1 18 RX1 (TX1 3).2.1 (TX1 3).2.2.1, Cond.fieldLink RX1 92 RX2 (TX2 2).2.1 (TX2 2).2.2.1, Cond.fieldLink RX1 22 RX1 (TX1 4).2.1 (TX1 4).2.2.1, Cond.methodLink RX2 3 Lib.objectInit, Cond.arrayClass .short, Cond.fieldLink RX2 9 RX2 (TX2 2).2.1 (TX2 2).2.2.1, Cond.fieldLink RX2 15 RX2 (TX2 3).2.1 (TX2 3).2.2.1, Cond.fieldLink RX2 18 RX2 (TX2 0).2.1 (TX2 0).2.2.1, Cond.fieldLink RX2 22 RX2 (TX2 1).2.1 (TX2 1).2.2.1, Cond.fieldLink RX2 26 RX2 (TX2 7).2.1 (TX2 7).2.2.1, Cond.fieldLink RX2 30 RX2 (TX2 8).2.1 (TX2 8).2.2.1, Cond.fieldLink RX2 33 RX2 (TX2 9).2.1 (TX2 9).2.2.1, Cond.fieldLink RX2 55 RX2 (TX2 5).2.1 (TX2 5).2.2.1, Cond.fieldLink RX2 58 RX2 (TX2 6).2.1 (TX2 6).2.2.1, Cond.constantLong RX3 33 1000000000]
theorem uw_1_in : ∀ w ∈ uw_1, w ∈ lw_good := mem_goods [1304, 1872, 1873, 1264, 1262, 1261, 1271, 1246, 1247, 1244, 1250, 1424, 1251, 1255, 1256, 962, 1259, 1265, 1266, 1267, 1276, 1277, 1245, 1278, 1279, 1280, 1281, 1282, 1283, 1284, 1285, 1286, 1287, 1288, 1289, 1290, 1291, 1292, 1301, 1302, 1303, 1268, 1633, 1862, 260, 254, 657, 257, 652, 689, 655, 658, 653, 654, 662, 663, 664, 660, 661, 602] rfl (by decide +kernel)
theorem kf_X12_464 : Cond.fieldLink RX12 464 RX12 (TX12 58).2.1 (TX12 58).2.2.1 ∈ lw_good := uw_1_in _ (List.mem_of_getElem? (i := 0) rfl)
theorem kl_X12_467 : Cond.constantLong RX12 467 12345 ∈ lw_good := uw_1_in _ (List.mem_of_getElem? (i := 1) rfl)
theorem kl_X12_469 : Cond.constantLong RX12 469 1000003 ∈ lw_good := uw_1_in _ (List.mem_of_getElem? (i := 2) rfl)
theorem kf_X12_49 : Cond.fieldLink RX12 49 RX12 (TX12 18).2.1 (TX12 18).2.2.1 ∈ lw_good := uw_1_in _ (List.mem_of_getElem? (i := 3) rfl)
theorem kf_X12_46 : Cond.fieldLink RX12 46 RX12 (TX12 16).2.1 (TX12 16).2.2.1 ∈ lw_good := uw_1_in _ (List.mem_of_getElem? (i := 4) rfl)
theorem kf_X12_43 : Cond.fieldLink RX12 43 RX12 (TX12 15).2.1 (TX12 15).2.2.1 ∈ lw_good := uw_1_in _ (List.mem_of_getElem? (i := 5) rfl)
theorem kf_X12_230 : Cond.fieldLink RX12 230 RX12 (TX12 25).2.1 (TX12 25).2.2.1 ∈ lw_good := uw_1_in _ (List.mem_of_getElem? (i := 6) rfl)
theorem kf_X12_3 : Cond.fieldLink RX12 3 RX12 (TX12 0).2.1 (TX12 0).2.2.1 ∈ lw_good := uw_1_in _ (List.mem_of_getElem? (i := 7) rfl)
theorem kf_X12_11 : Cond.fieldLink RX12 11 RX12 (TX12 1).2.1 (TX12 1).2.2.1 ∈ lw_good := uw_1_in _ (List.mem_of_getElem? (i := 8) rfl)
theorem km_X12_14 : Cond.methodLink RX12 14 Lib.objectInit ∈ lw_good := uw_1_in _ (List.mem_of_getElem? (i := 9) rfl)
theorem kf_X12_23 : Cond.fieldLink RX12 23 RX12 (TX12 4).2.1 (TX12 4).2.2.1 ∈ lw_good := uw_1_in _ (List.mem_of_getElem? (i := 10) rfl)
theorem wa_boolean : Cond.arrayClass .boolean ∈ lw_good := uw_1_in _ (List.mem_of_getElem? (i := 11) rfl)
theorem kf_X12_26 : Cond.fieldLink RX12 26 RX12 (TX12 5).2.1 (TX12 5).2.2.1 ∈ lw_good := uw_1_in _ (List.mem_of_getElem? (i := 12) rfl)
theorem kf_X12_33 : Cond.fieldLink RX12 33 RX12 (TX12 9).2.1 (TX12 9).2.2.1 ∈ lw_good := uw_1_in _ (List.mem_of_getElem? (i := 13) rfl)
theorem kf_X12_36 : Cond.fieldLink RX12 36 RX12 (TX12 10).2.1 (TX12 10).2.2.1 ∈ lw_good := uw_1_in _ (List.mem_of_getElem? (i := 14) rfl)
theorem wa_byte : Cond.arrayClass .byte ∈ lw_good := uw_1_in _ (List.mem_of_getElem? (i := 15) rfl)
theorem kf_X12_39 : Cond.fieldLink RX12 39 RX12 (TX12 13).2.1 (TX12 13).2.2.1 ∈ lw_good := uw_1_in _ (List.mem_of_getElem? (i := 16) rfl)
theorem kf_X12_52 : Cond.fieldLink RX12 52 RX12 (TX12 19).2.1 (TX12 19).2.2.1 ∈ lw_good := uw_1_in _ (List.mem_of_getElem? (i := 17) rfl)
theorem kf_X12_55 : Cond.fieldLink RX12 55 RX12 (TX12 20).2.1 (TX12 20).2.2.1 ∈ lw_good := uw_1_in _ (List.mem_of_getElem? (i := 18) rfl)
theorem kf_X12_58 : Cond.fieldLink RX12 58 RX12 (TX12 21).2.1 (TX12 21).2.2.1 ∈ lw_good := uw_1_in _ (List.mem_of_getElem? (i := 19) rfl)
theorem kf_X12_61 : Cond.fieldLink RX12 61 RX12 (TX12 30).2.1 (TX12 30).2.2.1 ∈ lw_good := uw_1_in _ (List.mem_of_getElem? (i := 20) rfl)
theorem kf_X12_64 : Cond.fieldLink RX12 64 RX12 (TX12 31).2.1 (TX12 31).2.2.1 ∈ lw_good := uw_1_in _ (List.mem_of_getElem? (i := 21) rfl)
theorem ki_X12_67 : Cond.constant RX12 67 429226 ∈ lw_good := uw_1_in _ (List.mem_of_getElem? (i := 22) rfl)
theorem kf_X12_68 : Cond.fieldLink RX12 68 RX12 (TX12 32).2.1 (TX12 32).2.2.1 ∈ lw_good := uw_1_in _ (List.mem_of_getElem? (i := 23) rfl)
theorem kf_X12_71 : Cond.fieldLink RX12 71 RX12 (TX12 33).2.1 (TX12 33).2.2.1 ∈ lw_good := uw_1_in _ (List.mem_of_getElem? (i := 24) rfl)
theorem kf_X12_74 : Cond.fieldLink RX12 74 RX12 (TX12 34).2.1 (TX12 34).2.2.1 ∈ lw_good := uw_1_in _ (List.mem_of_getElem? (i := 25) rfl)
theorem kf_X12_77 : Cond.fieldLink RX12 77 RX12 (TX12 35).2.1 (TX12 35).2.2.1 ∈ lw_good := uw_1_in _ (List.mem_of_getElem? (i := 26) rfl)
theorem kf_X12_80 : Cond.fieldLink RX12 80 RX12 (TX12 36).2.1 (TX12 36).2.2.1 ∈ lw_good := uw_1_in _ (List.mem_of_getElem? (i := 27) rfl)
theorem kf_X12_83 : Cond.fieldLink RX12 83 RX12 (TX12 37).2.1 (TX12 37).2.2.1 ∈ lw_good := uw_1_in _ (List.mem_of_getElem? (i := 28) rfl)
theorem kf_X12_86 : Cond.fieldLink RX12 86 RX12 (TX12 38).2.1 (TX12 38).2.2.1 ∈ lw_good := uw_1_in _ (List.mem_of_getElem? (i := 29) rfl)
theorem kf_X12_89 : Cond.fieldLink RX12 89 RX12 (TX12 39).2.1 (TX12 39).2.2.1 ∈ lw_good := uw_1_in _ (List.mem_of_getElem? (i := 30) rfl)
theorem kf_X12_92 : Cond.fieldLink RX12 92 RX12 (TX12 40).2.1 (TX12 40).2.2.1 ∈ lw_good := uw_1_in _ (List.mem_of_getElem? (i := 31) rfl)
theorem kf_X12_95 : Cond.fieldLink RX12 95 RX12 (TX12 41).2.1 (TX12 41).2.2.1 ∈ lw_good := uw_1_in _ (List.mem_of_getElem? (i := 32) rfl)
theorem kf_X12_98 : Cond.fieldLink RX12 98 RX12 (TX12 42).2.1 (TX12 42).2.2.1 ∈ lw_good := uw_1_in _ (List.mem_of_getElem? (i := 33) rfl)
theorem kf_X12_101 : Cond.fieldLink RX12 101 RX12 (TX12 43).2.1 (TX12 43).2.2.1 ∈ lw_good := uw_1_in _ (List.mem_of_getElem? (i := 34) rfl)
theorem kf_X12_104 : Cond.fieldLink RX12 104 RX12 (TX12 44).2.1 (TX12 44).2.2.1 ∈ lw_good := uw_1_in _ (List.mem_of_getElem? (i := 35) rfl)
theorem kf_X12_108 : Cond.fieldLink RX12 108 RX12 (TX12 45).2.1 (TX12 45).2.2.1 ∈ lw_good := uw_1_in _ (List.mem_of_getElem? (i := 36) rfl)
theorem kf_X12_111 : Cond.fieldLink RX12 111 RX12 (TX12 46).2.1 (TX12 46).2.2.1 ∈ lw_good := uw_1_in _ (List.mem_of_getElem? (i := 37) rfl)
theorem kf_X12_114 : Cond.fieldLink RX12 114 RX12 (TX12 55).2.1 (TX12 55).2.2.1 ∈ lw_good := uw_1_in _ (List.mem_of_getElem? (i := 38) rfl)
theorem kf_X12_117 : Cond.fieldLink RX12 117 RX12 (TX12 56).2.1 (TX12 56).2.2.1 ∈ lw_good := uw_1_in _ (List.mem_of_getElem? (i := 39) rfl)
theorem kf_X12_120 : Cond.fieldLink RX12 120 RX12 (TX12 57).2.1 (TX12 57).2.2.1 ∈ lw_good := uw_1_in _ (List.mem_of_getElem? (i := 40) rfl)
theorem kf_X12_217 : Cond.fieldLink RX12 217 RX12 (TX12 22).2.1 (TX12 22).2.2.1 ∈ lw_good := uw_1_in _ (List.mem_of_getElem? (i := 41) rfl)
theorem ki_X12_229 : Cond.constant RX12 229 1000000 ∈ lw_good := uw_1_in _ (List.mem_of_getElem? (i := 42) rfl)
theorem kl_X12_450 : Cond.constantLong RX12 450 1000000 ∈ lw_good := uw_1_in _ (List.mem_of_getElem? (i := 43) rfl)
theorem kf_X1_82 : Cond.fieldLink RX1 82 RX1 (TX1 5).2.1 (TX1 5).2.2.1 ∈ lw_good := uw_1_in _ (List.mem_of_getElem? (i := 44) rfl)
theorem kf_X1_18 : Cond.fieldLink RX1 18 RX1 (TX1 3).2.1 (TX1 3).2.2.1 ∈ lw_good := uw_1_in _ (List.mem_of_getElem? (i := 45) rfl)
theorem kf_X1_92 : Cond.fieldLink RX1 92 RX2 (TX2 2).2.1 (TX2 2).2.2.1 ∈ lw_good := uw_1_in _ (List.mem_of_getElem? (i := 46) rfl)
theorem kf_X1_22 : Cond.fieldLink RX1 22 RX1 (TX1 4).2.1 (TX1 4).2.2.1 ∈ lw_good := uw_1_in _ (List.mem_of_getElem? (i := 47) rfl)
theorem km_X2_3 : Cond.methodLink RX2 3 Lib.objectInit ∈ lw_good := uw_1_in _ (List.mem_of_getElem? (i := 48) rfl)
theorem wa_short : Cond.arrayClass .short ∈ lw_good := uw_1_in _ (List.mem_of_getElem? (i := 49) rfl)
theorem kf_X2_9 : Cond.fieldLink RX2 9 RX2 (TX2 2).2.1 (TX2 2).2.2.1 ∈ lw_good := uw_1_in _ (List.mem_of_getElem? (i := 50) rfl)
theorem kf_X2_15 : Cond.fieldLink RX2 15 RX2 (TX2 3).2.1 (TX2 3).2.2.1 ∈ lw_good := uw_1_in _ (List.mem_of_getElem? (i := 51) rfl)
theorem kf_X2_18 : Cond.fieldLink RX2 18 RX2 (TX2 0).2.1 (TX2 0).2.2.1 ∈ lw_good := uw_1_in _ (List.mem_of_getElem? (i := 52) rfl)
theorem kf_X2_22 : Cond.fieldLink RX2 22 RX2 (TX2 1).2.1 (TX2 1).2.2.1 ∈ lw_good := uw_1_in _ (List.mem_of_getElem? (i := 53) rfl)
theorem kf_X2_26 : Cond.fieldLink RX2 26 RX2 (TX2 7).2.1 (TX2 7).2.2.1 ∈ lw_good := uw_1_in _ (List.mem_of_getElem? (i := 54) rfl)
theorem kf_X2_30 : Cond.fieldLink RX2 30 RX2 (TX2 8).2.1 (TX2 8).2.2.1 ∈ lw_good := uw_1_in _ (List.mem_of_getElem? (i := 55) rfl)
theorem kf_X2_33 : Cond.fieldLink RX2 33 RX2 (TX2 9).2.1 (TX2 9).2.2.1 ∈ lw_good := uw_1_in _ (List.mem_of_getElem? (i := 56) rfl)
theorem kf_X2_55 : Cond.fieldLink RX2 55 RX2 (TX2 5).2.1 (TX2 5).2.2.1 ∈ lw_good := uw_1_in _ (List.mem_of_getElem? (i := 57) rfl)
theorem kf_X2_58 : Cond.fieldLink RX2 58 RX2 (TX2 6).2.1 (TX2 6).2.2.1 ∈ lw_good := uw_1_in _ (List.mem_of_getElem? (i := 58) rfl)
theorem kl_X3_33 : Cond.constantLong RX3 33 1000000000 ∈ lw_good := uw_1_in _ (List.mem_of_getElem? (i := 59) rfl)
def uw_2 : List Cond := [Cond.constantLong RX3 27 (-9223372036854775808), Cond.constantLong RX3 35 (-1000000000), Cond.methodLink RX3 5 Lib.objectInit, Cond.fieldLink RX3 11 RX3 (TX3 0).2.1 (TX3 0).2.2.1, Cond.fieldLink RX3 17 RX3 (TX3 1).2.1 (TX3 1).2.2.1, Cond.fieldLink RX4 66 RX4 (TX4 4).2.1 (TX4 4).2.2.1, Cond.fieldLink RX4 92 RX4 (TX4 7).2.1 (TX4 7).2.2.1, Cond.fieldLink RX4 95 RX4 (TX4 8).2.1 (TX4 8).2.2.1, Cond.fieldLink RX4 98 RX4 (TX4 9).2.1 (TX4 9).2.2.1, Cond.methodLink RX4 3 Lib.objectInit, Cond.classLink RX4 11 RX2, Cond.fieldLink RX4 13 RX4 (TX4 2).2.1 (TX4 2).2.2.1, Cond.fieldLink RX4 17 RX4 (TX4 0).2.1 (TX4 0).2.2.1, Cond.fieldLink RX4 21 RX4 (TX4 1).2.1 (TX4 1).2.2.1, Cond.fieldLink RX5 18 RX5 (TX5 2).2.1 (TX5 2).2.2.1, Cond.fieldLink RX5 40 RX5 (TX5 7).2.1 (TX5 7).2.2.1, Cond.fieldLink RX5 9 RX5 (TX5 0).2.1 (TX5 0).2.2.1, Cond.methodLink RX5 3 Lib.objectInit, Cond.fieldLink RX5 15 RX5 (TX5 1).2.1 (TX5 1).2.2.1, Cond.fieldLink RX5 21 RX5 (TX5 3).2.1 (TX5 3).2.2.1, Cond.fieldLink RX5 24 RX5 (TX5 4).2.1 (TX5 4).2.2.1, Cond.fieldLink RX5 27 RX5 (TX5 5).2.1 (TX5 5).2.2.1, Cond.fieldLink RX5 30 RX5 (TX5 6).2.1 (TX5 6).2.2.1, Cond.fieldLink RX5 33 RX5 (TX5 8).2.1 (TX5 8).2.2.1, Cond.fieldLink RX5 37 RX5 (TX5 9).2.1 (TX5 9).2.2.1, Cond.constant RX5 43 1000000, Cond.methodLink RX5 73 Lib.Math.min.name, Cond.fieldLink RX5 48 RX5 (TX5 11).2.1 (TX5 11).2.2.1, Cond.methodLink RX5 88 arraycopyName, Cond.fieldLink RX6 29 RX6 (TX6 2).2.1 (TX6 2).2.2.1, Cond.methodLink RX6 3 Lib.objectInit, Cond.fieldLink RX6 9 RX6 (TX6 0).2.1 (TX6 0).2.2.1, Cond.fieldLink RX6 15 RX6 (TX6 1).2.1 (TX6 1).2.2.1, Cond.constant RX6 18 66666, Cond.fieldLink RX7 34 RX7 (TX7 4).2.1 (TX7 4).2.2.1, Cond.fieldLink RX7 11 RX7 (TX7 0).2.1 (TX7 0).2.2.1, Cond.fieldLink RX7 18 RX7 (TX7 2).2.1 (TX7 2).2.2.1, Cond.fieldLink RX7 63 RX7 (TX7 7).2.1 (TX7 7).2.2.1, Cond.fieldLink RX7 30 RX7 (TX7 5).2.1 (TX7 5).2.2.1, Cond.fieldLink RX7 26 RX7 (TX7 3).2.1 (TX7 3).2.2.1, Cond.fieldLink RX7 173 RX9 (TX9 4).2.1 (TX9 4).2.2.1, Cond.fieldLink RX7 66 RX7 (TX7 8).2.1 (TX7 8).2.2.1, Cond.methodLink RX7 93 Lib.Math.min.name, Cond.fieldLink RX7 15 RX7 (TX7 1).2.1 (TX7 1).2.2.1, Cond.fieldLink RX8 30 RX8 (TX8 3).2.1 (TX8 3).2.2.1, Cond.fieldLink RX9 22 RX9 (TX9 3).2.1 (TX9 3).2.2.1, Cond.fieldLink RX9 15 RX9 (TX9 1).2.1 (TX9 1).2.2.1, Cond.fieldLink RX9 18 RX9 (TX9 2).2.1 (TX9 2).2.2.1, Cond.fieldLink RX9 34 RX9 (TX9 4).2.1 (TX9 4).2.2.1, Cond.methodLink RX9 3 Lib.objectInit, Cond.fieldLink RX9 11 RX9 (TX9 0).2.1 (TX9 0).2.2.1, Cond.code yX10_hasHouse cX10_hasHouse 2 (some .boolean), Cond.initialized RX10, Cond.methodLink RX10 85 yX10_hasHouse, Cond.instanceMethod yX10_hasHouse, Cond.selects RX10 yX10_hasHouse yX10_hasHouse, Cond.code yX11_isThing cX11_isThing 1 (some .boolean), Cond.initialized RX11, Cond.static yX11_isThing, Cond.code yX10_isLikeEarlier cX10_isLikeEarlier 5 (some .boolean)]
theorem uw_2_in : ∀ w ∈ uw_2, w ∈ lw_good := mem_goods [598, 603, 182, 183, 186, 296, 299, 301, 303, 289, 290, 294, 292, 293, 334, 339, 332, 331, 333, 335, 336, 337, 338, 340, 341, 1109, 1123, 344, 1137, 240, 234, 235, 237, 492, 148, 143, 145, 153, 150, 146, 131, 154, 854, 144, 204, 127, 121, 124, 130, 119, 120, 503, 2, 733, 501, 502, 461, 1, 460, 1185] rfl (by decide +kernel)
theorem kl_X3_27 : Cond.constantLong RX3 27 (-9223372036854775808) ∈ lw_good := uw_2_in _ (List.mem_of_getElem? (i := 0) rfl)
theorem kl_X3_35 : Cond.constantLong RX3 35 (-1000000000) ∈ lw_good := uw_2_in _ (List.mem_of_getElem? (i := 1) rfl)
theorem km_X3_5 : Cond.methodLink RX3 5 Lib.objectInit ∈ lw_good := uw_2_in _ (List.mem_of_getElem? (i := 2) rfl)
theorem kf_X3_11 : Cond.fieldLink RX3 11 RX3 (TX3 0).2.1 (TX3 0).2.2.1 ∈ lw_good := uw_2_in _ (List.mem_of_getElem? (i := 3) rfl)
theorem kf_X3_17 : Cond.fieldLink RX3 17 RX3 (TX3 1).2.1 (TX3 1).2.2.1 ∈ lw_good := uw_2_in _ (List.mem_of_getElem? (i := 4) rfl)
theorem kf_X4_66 : Cond.fieldLink RX4 66 RX4 (TX4 4).2.1 (TX4 4).2.2.1 ∈ lw_good := uw_2_in _ (List.mem_of_getElem? (i := 5) rfl)
theorem kf_X4_92 : Cond.fieldLink RX4 92 RX4 (TX4 7).2.1 (TX4 7).2.2.1 ∈ lw_good := uw_2_in _ (List.mem_of_getElem? (i := 6) rfl)
theorem kf_X4_95 : Cond.fieldLink RX4 95 RX4 (TX4 8).2.1 (TX4 8).2.2.1 ∈ lw_good := uw_2_in _ (List.mem_of_getElem? (i := 7) rfl)
theorem kf_X4_98 : Cond.fieldLink RX4 98 RX4 (TX4 9).2.1 (TX4 9).2.2.1 ∈ lw_good := uw_2_in _ (List.mem_of_getElem? (i := 8) rfl)
theorem km_X4_3 : Cond.methodLink RX4 3 Lib.objectInit ∈ lw_good := uw_2_in _ (List.mem_of_getElem? (i := 9) rfl)
theorem kk_X4_11 : Cond.classLink RX4 11 RX2 ∈ lw_good := uw_2_in _ (List.mem_of_getElem? (i := 10) rfl)
theorem kf_X4_13 : Cond.fieldLink RX4 13 RX4 (TX4 2).2.1 (TX4 2).2.2.1 ∈ lw_good := uw_2_in _ (List.mem_of_getElem? (i := 11) rfl)
theorem kf_X4_17 : Cond.fieldLink RX4 17 RX4 (TX4 0).2.1 (TX4 0).2.2.1 ∈ lw_good := uw_2_in _ (List.mem_of_getElem? (i := 12) rfl)
theorem kf_X4_21 : Cond.fieldLink RX4 21 RX4 (TX4 1).2.1 (TX4 1).2.2.1 ∈ lw_good := uw_2_in _ (List.mem_of_getElem? (i := 13) rfl)
theorem kf_X5_18 : Cond.fieldLink RX5 18 RX5 (TX5 2).2.1 (TX5 2).2.2.1 ∈ lw_good := uw_2_in _ (List.mem_of_getElem? (i := 14) rfl)
theorem kf_X5_40 : Cond.fieldLink RX5 40 RX5 (TX5 7).2.1 (TX5 7).2.2.1 ∈ lw_good := uw_2_in _ (List.mem_of_getElem? (i := 15) rfl)
theorem kf_X5_9 : Cond.fieldLink RX5 9 RX5 (TX5 0).2.1 (TX5 0).2.2.1 ∈ lw_good := uw_2_in _ (List.mem_of_getElem? (i := 16) rfl)
theorem km_X5_3 : Cond.methodLink RX5 3 Lib.objectInit ∈ lw_good := uw_2_in _ (List.mem_of_getElem? (i := 17) rfl)
theorem kf_X5_15 : Cond.fieldLink RX5 15 RX5 (TX5 1).2.1 (TX5 1).2.2.1 ∈ lw_good := uw_2_in _ (List.mem_of_getElem? (i := 18) rfl)
theorem kf_X5_21 : Cond.fieldLink RX5 21 RX5 (TX5 3).2.1 (TX5 3).2.2.1 ∈ lw_good := uw_2_in _ (List.mem_of_getElem? (i := 19) rfl)
theorem kf_X5_24 : Cond.fieldLink RX5 24 RX5 (TX5 4).2.1 (TX5 4).2.2.1 ∈ lw_good := uw_2_in _ (List.mem_of_getElem? (i := 20) rfl)
theorem kf_X5_27 : Cond.fieldLink RX5 27 RX5 (TX5 5).2.1 (TX5 5).2.2.1 ∈ lw_good := uw_2_in _ (List.mem_of_getElem? (i := 21) rfl)
theorem kf_X5_30 : Cond.fieldLink RX5 30 RX5 (TX5 6).2.1 (TX5 6).2.2.1 ∈ lw_good := uw_2_in _ (List.mem_of_getElem? (i := 22) rfl)
theorem kf_X5_33 : Cond.fieldLink RX5 33 RX5 (TX5 8).2.1 (TX5 8).2.2.1 ∈ lw_good := uw_2_in _ (List.mem_of_getElem? (i := 23) rfl)
theorem kf_X5_37 : Cond.fieldLink RX5 37 RX5 (TX5 9).2.1 (TX5 9).2.2.1 ∈ lw_good := uw_2_in _ (List.mem_of_getElem? (i := 24) rfl)
theorem ki_X5_43 : Cond.constant RX5 43 1000000 ∈ lw_good := uw_2_in _ (List.mem_of_getElem? (i := 25) rfl)
theorem km_X5_73 : Cond.methodLink RX5 73 Lib.Math.min.name ∈ lw_good := uw_2_in _ (List.mem_of_getElem? (i := 26) rfl)
theorem kf_X5_48 : Cond.fieldLink RX5 48 RX5 (TX5 11).2.1 (TX5 11).2.2.1 ∈ lw_good := uw_2_in _ (List.mem_of_getElem? (i := 27) rfl)
theorem km_X5_88 : Cond.methodLink RX5 88 arraycopyName ∈ lw_good := uw_2_in _ (List.mem_of_getElem? (i := 28) rfl)
theorem kf_X6_29 : Cond.fieldLink RX6 29 RX6 (TX6 2).2.1 (TX6 2).2.2.1 ∈ lw_good := uw_2_in _ (List.mem_of_getElem? (i := 29) rfl)
theorem km_X6_3 : Cond.methodLink RX6 3 Lib.objectInit ∈ lw_good := uw_2_in _ (List.mem_of_getElem? (i := 30) rfl)
theorem kf_X6_9 : Cond.fieldLink RX6 9 RX6 (TX6 0).2.1 (TX6 0).2.2.1 ∈ lw_good := uw_2_in _ (List.mem_of_getElem? (i := 31) rfl)
theorem kf_X6_15 : Cond.fieldLink RX6 15 RX6 (TX6 1).2.1 (TX6 1).2.2.1 ∈ lw_good := uw_2_in _ (List.mem_of_getElem? (i := 32) rfl)
theorem ki_X6_18 : Cond.constant RX6 18 66666 ∈ lw_good := uw_2_in _ (List.mem_of_getElem? (i := 33) rfl)
theorem kf_X7_34 : Cond.fieldLink RX7 34 RX7 (TX7 4).2.1 (TX7 4).2.2.1 ∈ lw_good := uw_2_in _ (List.mem_of_getElem? (i := 34) rfl)
theorem kf_X7_11 : Cond.fieldLink RX7 11 RX7 (TX7 0).2.1 (TX7 0).2.2.1 ∈ lw_good := uw_2_in _ (List.mem_of_getElem? (i := 35) rfl)
theorem kf_X7_18 : Cond.fieldLink RX7 18 RX7 (TX7 2).2.1 (TX7 2).2.2.1 ∈ lw_good := uw_2_in _ (List.mem_of_getElem? (i := 36) rfl)
theorem kf_X7_63 : Cond.fieldLink RX7 63 RX7 (TX7 7).2.1 (TX7 7).2.2.1 ∈ lw_good := uw_2_in _ (List.mem_of_getElem? (i := 37) rfl)
theorem kf_X7_30 : Cond.fieldLink RX7 30 RX7 (TX7 5).2.1 (TX7 5).2.2.1 ∈ lw_good := uw_2_in _ (List.mem_of_getElem? (i := 38) rfl)
theorem kf_X7_26 : Cond.fieldLink RX7 26 RX7 (TX7 3).2.1 (TX7 3).2.2.1 ∈ lw_good := uw_2_in _ (List.mem_of_getElem? (i := 39) rfl)
theorem kf_X7_173 : Cond.fieldLink RX7 173 RX9 (TX9 4).2.1 (TX9 4).2.2.1 ∈ lw_good := uw_2_in _ (List.mem_of_getElem? (i := 40) rfl)
theorem kf_X7_66 : Cond.fieldLink RX7 66 RX7 (TX7 8).2.1 (TX7 8).2.2.1 ∈ lw_good := uw_2_in _ (List.mem_of_getElem? (i := 41) rfl)
theorem km_X7_93 : Cond.methodLink RX7 93 Lib.Math.min.name ∈ lw_good := uw_2_in _ (List.mem_of_getElem? (i := 42) rfl)
theorem kf_X7_15 : Cond.fieldLink RX7 15 RX7 (TX7 1).2.1 (TX7 1).2.2.1 ∈ lw_good := uw_2_in _ (List.mem_of_getElem? (i := 43) rfl)
theorem kf_X8_30 : Cond.fieldLink RX8 30 RX8 (TX8 3).2.1 (TX8 3).2.2.1 ∈ lw_good := uw_2_in _ (List.mem_of_getElem? (i := 44) rfl)
theorem kf_X9_22 : Cond.fieldLink RX9 22 RX9 (TX9 3).2.1 (TX9 3).2.2.1 ∈ lw_good := uw_2_in _ (List.mem_of_getElem? (i := 45) rfl)
theorem kf_X9_15 : Cond.fieldLink RX9 15 RX9 (TX9 1).2.1 (TX9 1).2.2.1 ∈ lw_good := uw_2_in _ (List.mem_of_getElem? (i := 46) rfl)
theorem kf_X9_18 : Cond.fieldLink RX9 18 RX9 (TX9 2).2.1 (TX9 2).2.2.1 ∈ lw_good := uw_2_in _ (List.mem_of_getElem? (i := 47) rfl)
theorem kf_X9_34 : Cond.fieldLink RX9 34 RX9 (TX9 4).2.1 (TX9 4).2.2.1 ∈ lw_good := uw_2_in _ (List.mem_of_getElem? (i := 48) rfl)
theorem km_X9_3 : Cond.methodLink RX9 3 Lib.objectInit ∈ lw_good := uw_2_in _ (List.mem_of_getElem? (i := 49) rfl)
theorem kf_X9_11 : Cond.fieldLink RX9 11 RX9 (TX9 0).2.1 (TX9 0).2.2.1 ∈ lw_good := uw_2_in _ (List.mem_of_getElem? (i := 50) rfl)
theorem wc_X10_hasHouse : Cond.code yX10_hasHouse cX10_hasHouse 2 (some .boolean) ∈ lw_good := uw_2_in _ (List.mem_of_getElem? (i := 51) rfl)
theorem wn_X10 : Cond.initialized RX10 ∈ lw_good := uw_2_in _ (List.mem_of_getElem? (i := 52) rfl)
theorem km_X10_85 : Cond.methodLink RX10 85 yX10_hasHouse ∈ lw_good := uw_2_in _ (List.mem_of_getElem? (i := 53) rfl)
theorem wi_X10_hasHouse : Cond.instanceMethod yX10_hasHouse ∈ lw_good := uw_2_in _ (List.mem_of_getElem? (i := 54) rfl)
theorem wl_X10_hasHouse : Cond.selects RX10 yX10_hasHouse yX10_hasHouse ∈ lw_good := uw_2_in _ (List.mem_of_getElem? (i := 55) rfl)
theorem wc_X11_isThing : Cond.code yX11_isThing cX11_isThing 1 (some .boolean) ∈ lw_good := uw_2_in _ (List.mem_of_getElem? (i := 56) rfl)
theorem wn_X11 : Cond.initialized RX11 ∈ lw_good := uw_2_in _ (List.mem_of_getElem? (i := 57) rfl)
theorem wt_X11_isThing : Cond.static yX11_isThing ∈ lw_good := uw_2_in _ (List.mem_of_getElem? (i := 58) rfl)
theorem wc_X10_isLikeEarlier : Cond.code yX10_isLikeEarlier cX10_isLikeEarlier 5 (some .boolean) ∈ lw_good := uw_2_in _ (List.mem_of_getElem? (i := 59) rfl)
def uw_3 : List Cond := [Cond.methodLink RX10 92 yX10_isLikeEarlier, Cond.instanceMethod yX10_isLikeEarlier, Cond.code yX10_holds cX10_holds 3 (some .int), Cond.methodLink RX10 89 yX10_holds, Cond.instanceMethod yX10_holds, Cond.selects RX10 yX10_holds yX10_holds, Cond.methodLink RX10 49 arraycopyName, Cond.fieldLink RX10 64 RX10 (TX10 12).2.1 (TX10 12).2.2.1, Cond.code yX10_touchRules cX10_touchRules 1 none, Cond.methodLink RX10 67 yX10_touchRules, Cond.instanceMethod yX10_touchRules, Cond.selects RX10 yX10_touchRules yX10_touchRules, Cond.code yX11_refuse cX11_refuse 2 (some .int), Cond.methodLink RX11 97 yX11_refuse, Cond.instanceMethod yX11_refuse, Cond.methodLink RX11 105 yX10_touchRules, Cond.code yX11_accept cX11_accept 2 (some .int), Cond.methodLink RX11 108 yX11_accept, Cond.instanceMethod yX11_accept, Cond.methodLink RX11 89 yX11_isThing, Cond.code yX10_thingRow cX10_thingRow 2 (some (.array .int)), Cond.methodLink RX11 101 yX10_thingRow, Cond.instanceMethod yX10_thingRow, Cond.selects RX10 yX10_thingRow yX10_thingRow, Cond.methodLink RX11 119 yX10_hasHouse, Cond.fieldLink RX11 30 RX11 (TX11 3).2.1 (TX11 3).2.2.1, Cond.fieldLink RX11 224 RX3 (TX3 0).2.1 (TX3 0).2.2.1, Cond.code yX6_lengthOf cX6_lengthOf 2 (some .int), Cond.initialized RX6, Cond.methodLink RX11 380 yX6_lengthOf, Cond.static yX6_lengthOf, Cond.methodLink RX11 337 yX10_holds, Cond.code yX11_isYear cX11_isYear 1 (some .boolean), Cond.methodLink RX11 116 yX11_isYear, Cond.static yX11_isYear, Cond.code yX10_turnTo cX10_turnTo 2 none, Cond.methodLink RX11 164 yX10_turnTo, Cond.instanceMethod yX10_turnTo, Cond.selects RX10 yX10_turnTo yX10_turnTo, Cond.code yX12_isOne cX12_isOne 2 (some .boolean), Cond.initialized RX12, Cond.methodLink RX12 390 yX12_isOne, Cond.static yX12_isOne, Cond.code yX12_fact cX12_fact 3 (some .int), Cond.methodLink RX12 194 yX12_fact, Cond.instanceMethod yX12_fact, Cond.code yX12_has cX12_has 5 (some .int), Cond.methodLink RX12 159 yX12_has, Cond.instanceMethod yX12_has, Cond.code yX12_lies cX12_lies 3 (some .boolean), Cond.methodLink RX12 123 yX12_lies, Cond.static yX12_lies, Cond.code yX12_good cX12_good 2 (some .int), Cond.methodLink RX12 131 yX12_good, Cond.instanceMethod yX12_good, Cond.code yX12_refuses cX12_refuses 2 (some .int), Cond.methodLink RX12 127 yX12_refuses, Cond.instanceMethod yX12_refuses, Cond.code yX12_fine cX12_fine 1 (some .boolean), Cond.methodLink RX12 233 yX12_fine]
theorem uw_3_in : ∀ w ∈ uw_3, w ∈ lw_good := mem_goods [1182, 1184, 982, 1061, 980, 981, 1225, 65, 476, 1226, 474, 475, 468, 465, 467, 473, 480, 477, 479, 459, 472, 469, 470, 471, 500, 409, 185, 513, 8, 978, 512, 979, 499, 497, 498, 741, 738, 739, 740, 1778, 12, 1776, 1777, 1527, 1524, 1526, 1492, 1489, 1491, 1431, 1429, 1430, 1439, 1436, 1438, 1435, 1432, 1434, 1649, 1646] rfl (by decide +kernel)
theorem km_X10_92 : Cond.methodLink RX10 92 yX10_isLikeEarlier ∈ lw_good := uw_3_in _ (List.mem_of_getElem? (i := 0) rfl)
theorem wi_X10_isLikeEarlier : Cond.instanceMethod yX10_isLikeEarlier ∈ lw_good := uw_3_in _ (List.mem_of_getElem? (i := 1) rfl)
theorem wc_X10_holds : Cond.code yX10_holds cX10_holds 3 (some .int) ∈ lw_good := uw_3_in _ (List.mem_of_getElem? (i := 2) rfl)
theorem km_X10_89 : Cond.methodLink RX10 89 yX10_holds ∈ lw_good := uw_3_in _ (List.mem_of_getElem? (i := 3) rfl)
theorem wi_X10_holds : Cond.instanceMethod yX10_holds ∈ lw_good := uw_3_in _ (List.mem_of_getElem? (i := 4) rfl)
theorem wl_X10_holds : Cond.selects RX10 yX10_holds yX10_holds ∈ lw_good := uw_3_in _ (List.mem_of_getElem? (i := 5) rfl)
theorem km_X10_49 : Cond.methodLink RX10 49 arraycopyName ∈ lw_good := uw_3_in _ (List.mem_of_getElem? (i := 6) rfl)
theorem kf_X10_64 : Cond.fieldLink RX10 64 RX10 (TX10 12).2.1 (TX10 12).2.2.1 ∈ lw_good := uw_3_in _ (List.mem_of_getElem? (i := 7) rfl)
theorem wc_X10_touchRules : Cond.code yX10_touchRules cX10_touchRules 1 none ∈ lw_good := uw_3_in _ (List.mem_of_getElem? (i := 8) rfl)
theorem km_X10_67 : Cond.methodLink RX10 67 yX10_touchRules ∈ lw_good := uw_3_in _ (List.mem_of_getElem? (i := 9) rfl)
theorem wi_X10_touchRules : Cond.instanceMethod yX10_touchRules ∈ lw_good := uw_3_in _ (List.mem_of_getElem? (i := 10) rfl)
theorem wl_X10_touchRules : Cond.selects RX10 yX10_touchRules yX10_touchRules ∈ lw_good := uw_3_in _ (List.mem_of_getElem? (i := 11) rfl)
theorem wc_X11_refuse : Cond.code yX11_refuse cX11_refuse 2 (some .int) ∈ lw_good := uw_3_in _ (List.mem_of_getElem? (i := 12) rfl)
theorem km_X11_97 : Cond.methodLink RX11 97 yX11_refuse ∈ lw_good := uw_3_in _ (List.mem_of_getElem? (i := 13) rfl)
theorem wi_X11_refuse : Cond.instanceMethod yX11_refuse ∈ lw_good := uw_3_in _ (List.mem_of_getElem? (i := 14) rfl)
theorem km_X11_105 : Cond.methodLink RX11 105 yX10_touchRules ∈ lw_good := uw_3_in _ (List.mem_of_getElem? (i := 15) rfl)
theorem wc_X11_accept : Cond.code yX11_accept cX11_accept 2 (some .int) ∈ lw_good := uw_3_in _ (List.mem_of_getElem? (i := 16) rfl)
theorem km_X11_108 : Cond.methodLink RX11 108 yX11_accept ∈ lw_good := uw_3_in _ (List.mem_of_getElem? (i := 17) rfl)
theorem wi_X11_accept : Cond.instanceMethod yX11_accept ∈ lw_good := uw_3_in _ (List.mem_of_getElem? (i := 18) rfl)
theorem km_X11_89 : Cond.methodLink RX11 89 yX11_isThing ∈ lw_good := uw_3_in _ (List.mem_of_getElem? (i := 19) rfl)
theorem wc_X10_thingRow : Cond.code yX10_thingRow cX10_thingRow 2 (some (.array .int)) ∈ lw_good := uw_3_in _ (List.mem_of_getElem? (i := 20) rfl)
theorem km_X11_101 : Cond.methodLink RX11 101 yX10_thingRow ∈ lw_good := uw_3_in _ (List.mem_of_getElem? (i := 21) rfl)
theorem wi_X10_thingRow : Cond.instanceMethod yX10_thingRow ∈ lw_good := uw_3_in _ (List.mem_of_getElem? (i := 22) rfl)
theorem wl_X10_thingRow : Cond.selects RX10 yX10_thingRow yX10_thingRow ∈ lw_good := uw_3_in _ (List.mem_of_getElem? (i := 23) rfl)
theorem km_X11_119 : Cond.methodLink RX11 119 yX10_hasHouse ∈ lw_good := uw_3_in _ (List.mem_of_getElem? (i := 24) rfl)
theorem kf_X11_30 : Cond.fieldLink RX11 30 RX11 (TX11 3).2.1 (TX11 3).2.2.1 ∈ lw_good := uw_3_in _ (List.mem_of_getElem? (i := 25) rfl)
theorem kf_X11_224 : Cond.fieldLink RX11 224 RX3 (TX3 0).2.1 (TX3 0).2.2.1 ∈ lw_good := uw_3_in _ (List.mem_of_getElem? (i := 26) rfl)
theorem wc_X6_lengthOf : Cond.code yX6_lengthOf cX6_lengthOf 2 (some .int) ∈ lw_good := uw_3_in _ (List.mem_of_getElem? (i := 27) rfl)
theorem wn_X6 : Cond.initialized RX6 ∈ lw_good := uw_3_in _ (List.mem_of_getElem? (i := 28) rfl)
theorem km_X11_380 : Cond.methodLink RX11 380 yX6_lengthOf ∈ lw_good := uw_3_in _ (List.mem_of_getElem? (i := 29) rfl)
theorem wt_X6_lengthOf : Cond.static yX6_lengthOf ∈ lw_good := uw_3_in _ (List.mem_of_getElem? (i := 30) rfl)
theorem km_X11_337 : Cond.methodLink RX11 337 yX10_holds ∈ lw_good := uw_3_in _ (List.mem_of_getElem? (i := 31) rfl)
theorem wc_X11_isYear : Cond.code yX11_isYear cX11_isYear 1 (some .boolean) ∈ lw_good := uw_3_in _ (List.mem_of_getElem? (i := 32) rfl)
theorem km_X11_116 : Cond.methodLink RX11 116 yX11_isYear ∈ lw_good := uw_3_in _ (List.mem_of_getElem? (i := 33) rfl)
theorem wt_X11_isYear : Cond.static yX11_isYear ∈ lw_good := uw_3_in _ (List.mem_of_getElem? (i := 34) rfl)
theorem wc_X10_turnTo : Cond.code yX10_turnTo cX10_turnTo 2 none ∈ lw_good := uw_3_in _ (List.mem_of_getElem? (i := 35) rfl)
theorem km_X11_164 : Cond.methodLink RX11 164 yX10_turnTo ∈ lw_good := uw_3_in _ (List.mem_of_getElem? (i := 36) rfl)
theorem wi_X10_turnTo : Cond.instanceMethod yX10_turnTo ∈ lw_good := uw_3_in _ (List.mem_of_getElem? (i := 37) rfl)
theorem wl_X10_turnTo : Cond.selects RX10 yX10_turnTo yX10_turnTo ∈ lw_good := uw_3_in _ (List.mem_of_getElem? (i := 38) rfl)
theorem wc_X12_isOne : Cond.code yX12_isOne cX12_isOne 2 (some .boolean) ∈ lw_good := uw_3_in _ (List.mem_of_getElem? (i := 39) rfl)
theorem wn_X12 : Cond.initialized RX12 ∈ lw_good := uw_3_in _ (List.mem_of_getElem? (i := 40) rfl)
theorem km_X12_390 : Cond.methodLink RX12 390 yX12_isOne ∈ lw_good := uw_3_in _ (List.mem_of_getElem? (i := 41) rfl)
theorem wt_X12_isOne : Cond.static yX12_isOne ∈ lw_good := uw_3_in _ (List.mem_of_getElem? (i := 42) rfl)
theorem wc_X12_fact : Cond.code yX12_fact cX12_fact 3 (some .int) ∈ lw_good := uw_3_in _ (List.mem_of_getElem? (i := 43) rfl)
theorem km_X12_194 : Cond.methodLink RX12 194 yX12_fact ∈ lw_good := uw_3_in _ (List.mem_of_getElem? (i := 44) rfl)
theorem wi_X12_fact : Cond.instanceMethod yX12_fact ∈ lw_good := uw_3_in _ (List.mem_of_getElem? (i := 45) rfl)
theorem wc_X12_has : Cond.code yX12_has cX12_has 5 (some .int) ∈ lw_good := uw_3_in _ (List.mem_of_getElem? (i := 46) rfl)
theorem km_X12_159 : Cond.methodLink RX12 159 yX12_has ∈ lw_good := uw_3_in _ (List.mem_of_getElem? (i := 47) rfl)
theorem wi_X12_has : Cond.instanceMethod yX12_has ∈ lw_good := uw_3_in _ (List.mem_of_getElem? (i := 48) rfl)
theorem wc_X12_lies : Cond.code yX12_lies cX12_lies 3 (some .boolean) ∈ lw_good := uw_3_in _ (List.mem_of_getElem? (i := 49) rfl)
theorem km_X12_123 : Cond.methodLink RX12 123 yX12_lies ∈ lw_good := uw_3_in _ (List.mem_of_getElem? (i := 50) rfl)
theorem wt_X12_lies : Cond.static yX12_lies ∈ lw_good := uw_3_in _ (List.mem_of_getElem? (i := 51) rfl)
theorem wc_X12_good : Cond.code yX12_good cX12_good 2 (some .int) ∈ lw_good := uw_3_in _ (List.mem_of_getElem? (i := 52) rfl)
theorem km_X12_131 : Cond.methodLink RX12 131 yX12_good ∈ lw_good := uw_3_in _ (List.mem_of_getElem? (i := 53) rfl)
theorem wi_X12_good : Cond.instanceMethod yX12_good ∈ lw_good := uw_3_in _ (List.mem_of_getElem? (i := 54) rfl)
theorem wc_X12_refuses : Cond.code yX12_refuses cX12_refuses 2 (some .int) ∈ lw_good := uw_3_in _ (List.mem_of_getElem? (i := 55) rfl)
theorem km_X12_127 : Cond.methodLink RX12 127 yX12_refuses ∈ lw_good := uw_3_in _ (List.mem_of_getElem? (i := 56) rfl)
theorem wi_X12_refuses : Cond.instanceMethod yX12_refuses ∈ lw_good := uw_3_in _ (List.mem_of_getElem? (i := 57) rfl)
theorem wc_X12_fine : Cond.code yX12_fine cX12_fine 1 (some .boolean) ∈ lw_good := uw_3_in _ (List.mem_of_getElem? (i := 58) rfl)
theorem km_X12_233 : Cond.methodLink RX12 233 yX12_fine ∈ lw_good := uw_3_in _ (List.mem_of_getElem? (i := 59) rfl)
def uw_4 : List Cond := [Cond.instanceMethod yX12_fine, Cond.fieldLink RX12 237 RX12 (TX12 23).2.1 (TX12 23).2.2.1, Cond.constant RX12 141 66666, Cond.fieldLink RX12 249 RX12 (TX12 14).2.1 (TX12 14).2.2.1, Cond.code yX12_opens cX12_opens 4 none, Cond.methodLink RX12 145 yX12_opens, Cond.instanceMethod yX12_opens, Cond.fieldLink RX12 149 RX12 (TX12 8).2.1 (TX12 8).2.2.1, Cond.code yX12_closes cX12_closes 3 (some .int), Cond.methodLink RX12 152 yX12_closes, Cond.instanceMethod yX12_closes, Cond.fieldLink RX12 309 RX12 (TX12 26).2.1 (TX12 26).2.2.1, Cond.code yX12_codeAt cX12_codeAt 2 (some .int), Cond.methodLink RX12 312 yX12_codeAt, Cond.instanceMethod yX12_codeAt, Cond.code yX12_adds cX12_adds 5 none, Cond.methodLink RX12 201 yX12_adds, Cond.instanceMethod yX12_adds, Cond.code yX12_longOf cX12_longOf 3 (some .int), Cond.methodLink RX12 156 yX12_longOf, Cond.static yX12_longOf, Cond.code yX12_isSmall cX12_isSmall 1 (some .boolean), Cond.methodLink RX12 220 yX12_isSmall, Cond.static yX12_isSmall, Cond.code yX12_isDigit cX12_isDigit 1 (some .boolean), Cond.methodLink RX12 223 yX12_isDigit, Cond.static yX12_isDigit, Cond.code yX12_wordOf cX12_wordOf 8 (some .int), Cond.methodLink RX12 226 yX12_wordOf, Cond.instanceMethod yX12_wordOf, Cond.methodLink RX1 3 Lib.objectInit, Cond.classLink RX1 9 RX6, Cond.code yX6_init cX6_init 1 none, Cond.instanceMethod yX6_init, Cond.fieldLink RX1 12 RX1 (TX1 2).2.1 (TX1 2).2.2.1, Cond.fieldLink RX1 25 RX1 (TX1 0).2.1 (TX1 0).2.2.1, Cond.fieldLink RX1 29 RX1 (TX1 1).2.1 (TX1 1).2.2.1, Cond.fieldLink RX2 39 RX2 (TX2 10).2.1 (TX2 10).2.2.1, Cond.code yJ7_fill_fb410 cJ7_fill_fb410 4 none, Cond.initialized RJ7, Cond.methodLink RX2 46 yJ7_fill_fb410, Cond.static yJ7_fill_fb410, Cond.fieldLink RX2 52 RX2 (TX2 4).2.1 (TX2 4).2.2.1, Cond.code yX2_note cX2_note 2 none, Cond.initialized RX2, Cond.methodLink RX2 62 yX2_note, Cond.instanceMethod yX2_note, Cond.methodLink RX3 21 Lib.Math.max.name, Cond.code yX3_apply cX3_apply 7 (some .long), Cond.initialized RX3, Cond.methodLink RX3 29 yX3_apply, Cond.static yX3_apply, Cond.code yX5_houseAt cX5_houseAt 2 (some .int), Cond.initialized RX5, Cond.methodLink RX5 44 yX5_houseAt, Cond.instanceMethod yX5_houseAt, Cond.selects RX5 yX5_houseAt yX5_houseAt, Cond.fieldLink RX5 57 RX5 (TX5 10).2.1 (TX5 10).2.2.1, Cond.code yX5_comesOf cX5_comesOf 5 (some .boolean), Cond.methodLink RX5 84 yX5_comesOf]
theorem uw_4_in : ∀ w ∈ uw_4, w ∈ lw_good := mem_goods [1648, 1269, 1465, 1260, 1477, 1474, 1476, 1254, 1481, 1478, 1480, 1272, 1500, 1497, 1499, 1575, 1572, 1574, 1488, 1486, 1487, 1625, 1623, 1624, 1628, 1626, 1627, 1632, 1629, 1631, 228, 229, 233, 232, 253, 251, 252, 665, 696, 15, 694, 695, 659, 700, 14, 697, 699, 595, 601, 5, 599, 600, 1104, 10, 1146, 1102, 1103, 342, 1141, 1138] rfl (by decide +kernel)
theorem wi_X12_fine : Cond.instanceMethod yX12_fine ∈ lw_good := uw_4_in _ (List.mem_of_getElem? (i := 0) rfl)
theorem kf_X12_237 : Cond.fieldLink RX12 237 RX12 (TX12 23).2.1 (TX12 23).2.2.1 ∈ lw_good := uw_4_in _ (List.mem_of_getElem? (i := 1) rfl)
theorem ki_X12_141 : Cond.constant RX12 141 66666 ∈ lw_good := uw_4_in _ (List.mem_of_getElem? (i := 2) rfl)
theorem kf_X12_249 : Cond.fieldLink RX12 249 RX12 (TX12 14).2.1 (TX12 14).2.2.1 ∈ lw_good := uw_4_in _ (List.mem_of_getElem? (i := 3) rfl)
theorem wc_X12_opens : Cond.code yX12_opens cX12_opens 4 none ∈ lw_good := uw_4_in _ (List.mem_of_getElem? (i := 4) rfl)
theorem km_X12_145 : Cond.methodLink RX12 145 yX12_opens ∈ lw_good := uw_4_in _ (List.mem_of_getElem? (i := 5) rfl)
theorem wi_X12_opens : Cond.instanceMethod yX12_opens ∈ lw_good := uw_4_in _ (List.mem_of_getElem? (i := 6) rfl)
theorem kf_X12_149 : Cond.fieldLink RX12 149 RX12 (TX12 8).2.1 (TX12 8).2.2.1 ∈ lw_good := uw_4_in _ (List.mem_of_getElem? (i := 7) rfl)
theorem wc_X12_closes : Cond.code yX12_closes cX12_closes 3 (some .int) ∈ lw_good := uw_4_in _ (List.mem_of_getElem? (i := 8) rfl)
theorem km_X12_152 : Cond.methodLink RX12 152 yX12_closes ∈ lw_good := uw_4_in _ (List.mem_of_getElem? (i := 9) rfl)
theorem wi_X12_closes : Cond.instanceMethod yX12_closes ∈ lw_good := uw_4_in _ (List.mem_of_getElem? (i := 10) rfl)
theorem kf_X12_309 : Cond.fieldLink RX12 309 RX12 (TX12 26).2.1 (TX12 26).2.2.1 ∈ lw_good := uw_4_in _ (List.mem_of_getElem? (i := 11) rfl)
theorem wc_X12_codeAt : Cond.code yX12_codeAt cX12_codeAt 2 (some .int) ∈ lw_good := uw_4_in _ (List.mem_of_getElem? (i := 12) rfl)
theorem km_X12_312 : Cond.methodLink RX12 312 yX12_codeAt ∈ lw_good := uw_4_in _ (List.mem_of_getElem? (i := 13) rfl)
theorem wi_X12_codeAt : Cond.instanceMethod yX12_codeAt ∈ lw_good := uw_4_in _ (List.mem_of_getElem? (i := 14) rfl)
theorem wc_X12_adds : Cond.code yX12_adds cX12_adds 5 none ∈ lw_good := uw_4_in _ (List.mem_of_getElem? (i := 15) rfl)
theorem km_X12_201 : Cond.methodLink RX12 201 yX12_adds ∈ lw_good := uw_4_in _ (List.mem_of_getElem? (i := 16) rfl)
theorem wi_X12_adds : Cond.instanceMethod yX12_adds ∈ lw_good := uw_4_in _ (List.mem_of_getElem? (i := 17) rfl)
theorem wc_X12_longOf : Cond.code yX12_longOf cX12_longOf 3 (some .int) ∈ lw_good := uw_4_in _ (List.mem_of_getElem? (i := 18) rfl)
theorem km_X12_156 : Cond.methodLink RX12 156 yX12_longOf ∈ lw_good := uw_4_in _ (List.mem_of_getElem? (i := 19) rfl)
theorem wt_X12_longOf : Cond.static yX12_longOf ∈ lw_good := uw_4_in _ (List.mem_of_getElem? (i := 20) rfl)
theorem wc_X12_isSmall : Cond.code yX12_isSmall cX12_isSmall 1 (some .boolean) ∈ lw_good := uw_4_in _ (List.mem_of_getElem? (i := 21) rfl)
theorem km_X12_220 : Cond.methodLink RX12 220 yX12_isSmall ∈ lw_good := uw_4_in _ (List.mem_of_getElem? (i := 22) rfl)
theorem wt_X12_isSmall : Cond.static yX12_isSmall ∈ lw_good := uw_4_in _ (List.mem_of_getElem? (i := 23) rfl)
theorem wc_X12_isDigit : Cond.code yX12_isDigit cX12_isDigit 1 (some .boolean) ∈ lw_good := uw_4_in _ (List.mem_of_getElem? (i := 24) rfl)
theorem km_X12_223 : Cond.methodLink RX12 223 yX12_isDigit ∈ lw_good := uw_4_in _ (List.mem_of_getElem? (i := 25) rfl)
theorem wt_X12_isDigit : Cond.static yX12_isDigit ∈ lw_good := uw_4_in _ (List.mem_of_getElem? (i := 26) rfl)
theorem wc_X12_wordOf : Cond.code yX12_wordOf cX12_wordOf 8 (some .int) ∈ lw_good := uw_4_in _ (List.mem_of_getElem? (i := 27) rfl)
theorem km_X12_226 : Cond.methodLink RX12 226 yX12_wordOf ∈ lw_good := uw_4_in _ (List.mem_of_getElem? (i := 28) rfl)
theorem wi_X12_wordOf : Cond.instanceMethod yX12_wordOf ∈ lw_good := uw_4_in _ (List.mem_of_getElem? (i := 29) rfl)
theorem km_X1_3 : Cond.methodLink RX1 3 Lib.objectInit ∈ lw_good := uw_4_in _ (List.mem_of_getElem? (i := 30) rfl)
theorem kk_X1_9 : Cond.classLink RX1 9 RX6 ∈ lw_good := uw_4_in _ (List.mem_of_getElem? (i := 31) rfl)
theorem wc_X6_init : Cond.code yX6_init cX6_init 1 none ∈ lw_good := uw_4_in _ (List.mem_of_getElem? (i := 32) rfl)
theorem wi_X6_init : Cond.instanceMethod yX6_init ∈ lw_good := uw_4_in _ (List.mem_of_getElem? (i := 33) rfl)
theorem kf_X1_12 : Cond.fieldLink RX1 12 RX1 (TX1 2).2.1 (TX1 2).2.2.1 ∈ lw_good := uw_4_in _ (List.mem_of_getElem? (i := 34) rfl)
theorem kf_X1_25 : Cond.fieldLink RX1 25 RX1 (TX1 0).2.1 (TX1 0).2.2.1 ∈ lw_good := uw_4_in _ (List.mem_of_getElem? (i := 35) rfl)
theorem kf_X1_29 : Cond.fieldLink RX1 29 RX1 (TX1 1).2.1 (TX1 1).2.2.1 ∈ lw_good := uw_4_in _ (List.mem_of_getElem? (i := 36) rfl)
theorem kf_X2_39 : Cond.fieldLink RX2 39 RX2 (TX2 10).2.1 (TX2 10).2.2.1 ∈ lw_good := uw_4_in _ (List.mem_of_getElem? (i := 37) rfl)
theorem wc_J7_fill_fb410 : Cond.code yJ7_fill_fb410 cJ7_fill_fb410 4 none ∈ lw_good := uw_4_in _ (List.mem_of_getElem? (i := 38) rfl)
theorem wn_J7 : Cond.initialized RJ7 ∈ lw_good := uw_4_in _ (List.mem_of_getElem? (i := 39) rfl)
theorem km_X2_46 : Cond.methodLink RX2 46 yJ7_fill_fb410 ∈ lw_good := uw_4_in _ (List.mem_of_getElem? (i := 40) rfl)
theorem wt_J7_fill_fb410 : Cond.static yJ7_fill_fb410 ∈ lw_good := uw_4_in _ (List.mem_of_getElem? (i := 41) rfl)
theorem kf_X2_52 : Cond.fieldLink RX2 52 RX2 (TX2 4).2.1 (TX2 4).2.2.1 ∈ lw_good := uw_4_in _ (List.mem_of_getElem? (i := 42) rfl)
theorem wc_X2_note : Cond.code yX2_note cX2_note 2 none ∈ lw_good := uw_4_in _ (List.mem_of_getElem? (i := 43) rfl)
theorem wn_X2 : Cond.initialized RX2 ∈ lw_good := uw_4_in _ (List.mem_of_getElem? (i := 44) rfl)
theorem km_X2_62 : Cond.methodLink RX2 62 yX2_note ∈ lw_good := uw_4_in _ (List.mem_of_getElem? (i := 45) rfl)
theorem wi_X2_note : Cond.instanceMethod yX2_note ∈ lw_good := uw_4_in _ (List.mem_of_getElem? (i := 46) rfl)
theorem km_X3_21 : Cond.methodLink RX3 21 Lib.Math.max.name ∈ lw_good := uw_4_in _ (List.mem_of_getElem? (i := 47) rfl)
theorem wc_X3_apply : Cond.code yX3_apply cX3_apply 7 (some .long) ∈ lw_good := uw_4_in _ (List.mem_of_getElem? (i := 48) rfl)
theorem wn_X3 : Cond.initialized RX3 ∈ lw_good := uw_4_in _ (List.mem_of_getElem? (i := 49) rfl)
theorem km_X3_29 : Cond.methodLink RX3 29 yX3_apply ∈ lw_good := uw_4_in _ (List.mem_of_getElem? (i := 50) rfl)
theorem wt_X3_apply : Cond.static yX3_apply ∈ lw_good := uw_4_in _ (List.mem_of_getElem? (i := 51) rfl)
theorem wc_X5_houseAt : Cond.code yX5_houseAt cX5_houseAt 2 (some .int) ∈ lw_good := uw_4_in _ (List.mem_of_getElem? (i := 52) rfl)
theorem wn_X5 : Cond.initialized RX5 ∈ lw_good := uw_4_in _ (List.mem_of_getElem? (i := 53) rfl)
theorem km_X5_44 : Cond.methodLink RX5 44 yX5_houseAt ∈ lw_good := uw_4_in _ (List.mem_of_getElem? (i := 54) rfl)
theorem wi_X5_houseAt : Cond.instanceMethod yX5_houseAt ∈ lw_good := uw_4_in _ (List.mem_of_getElem? (i := 55) rfl)
theorem wl_X5_houseAt : Cond.selects RX5 yX5_houseAt yX5_houseAt ∈ lw_good := uw_4_in _ (List.mem_of_getElem? (i := 56) rfl)
theorem kf_X5_57 : Cond.fieldLink RX5 57 RX5 (TX5 10).2.1 (TX5 10).2.2.1 ∈ lw_good := uw_4_in _ (List.mem_of_getElem? (i := 57) rfl)
theorem wc_X5_comesOf : Cond.code yX5_comesOf cX5_comesOf 5 (some .boolean) ∈ lw_good := uw_4_in _ (List.mem_of_getElem? (i := 58) rfl)
theorem km_X5_84 : Cond.methodLink RX5 84 yX5_comesOf ∈ lw_good := uw_4_in _ (List.mem_of_getElem? (i := 59) rfl)
def uw_5 : List Cond := [Cond.instanceMethod yX5_comesOf, Cond.code yX5_seek cX5_seek 7 none, Cond.methodLink RX5 60 yX5_seek, Cond.instanceMethod yX5_seek, Cond.code yX5_noteRow cX5_noteRow 1 none, Cond.methodLink RX5 81 yX5_noteRow, Cond.instanceMethod yX5_noteRow, Cond.code yJ6_bitCount_0f7a4 cJ6_bitCount_0f7a4 1 (some .int), Cond.initialized RJ6, Cond.methodLink RX5 64 yJ6_bitCount_0f7a4, Cond.static yJ6_bitCount_0f7a4, Cond.code yX5_nearest cX5_nearest 5 (some .int), Cond.methodLink RX5 69 yX5_nearest, Cond.instanceMethod yX5_nearest, Cond.methodLink RX5 78 Lib.Math.max.name, Cond.methodLink RX6 25 yX6_lengthOf, Cond.fieldLink RX6 33 RX6 (TX6 3).2.1 (TX6 3).2.2.1, Cond.code yX6_hasPlace cX6_hasPlace 2 (some .boolean), Cond.methodLink RX6 36 yX6_hasPlace, Cond.instanceMethod yX6_hasPlace, Cond.selects RX6 yX6_hasPlace yX6_hasPlace, Cond.code yX6_hasRoomAt cX6_hasRoomAt 2 (some .boolean), Cond.methodLink RX6 40 yX6_hasRoomAt, Cond.instanceMethod yX6_hasRoomAt, Cond.selects RX6 yX6_hasRoomAt yX6_hasRoomAt, Cond.code yX7_hasRoomFor cX7_hasRoomFor 2 (some .boolean), Cond.initialized RX7, Cond.methodLink RX7 37 yX7_hasRoomFor, Cond.instanceMethod yX7_hasRoomFor, Cond.selects RX7 yX7_hasRoomFor yX7_hasRoomFor, Cond.code yX7_byteAt cX7_byteAt 2 (some .int), Cond.methodLink RX7 41 yX7_byteAt, Cond.instanceMethod yX7_byteAt, Cond.selects RX7 yX7_byteAt yX7_byteAt, Cond.code yX6_rankOf cX6_rankOf 6 (some .int), Cond.methodLink RX7 45 yX6_rankOf, Cond.static yX6_rankOf, Cond.methodLink RX7 3 Lib.objectInit, Cond.classLink RX7 21 RX9, Cond.code yX9_init cX9_init 3 none, Cond.initialized RX9, Cond.methodLink RX7 23 yX9_init, Cond.instanceMethod yX9_init, Cond.code yX7_next cX7_next 1 none, Cond.methodLink RX7 79 yX7_next, Cond.instanceMethod yX7_next, Cond.methodLink RX7 100 yJ0_length_8abf5, Cond.methodLink RX7 106 yJ0_charAt_5068e, Cond.methodLink RX8 3 Lib.objectInit, Cond.classLink RX8 9 RX3, Cond.code yX3_init cX3_init 1 none, Cond.instanceMethod yX3_init, Cond.fieldLink RX8 12 RX8 (TX8 1).2.1 (TX8 1).2.2.1, Cond.fieldLink RX8 18 RX8 (TX8 2).2.1 (TX8 2).2.2.1, Cond.fieldLink RX8 22 RX8 (TX8 0).2.1 (TX8 0).2.2.1, Cond.fieldLink RX8 26 RX8 (TX8 6).2.1 (TX8 6).2.2.1, Cond.fieldLink RX8 40 RX8 (TX8 5).2.1 (TX8 5).2.2.1, Cond.code yX10_textInForce cX10_textInForce 1 (some (.object "DishLines$Text")), Cond.methodLink RX8 46 yX10_textInForce, Cond.instanceMethod yX10_textInForce]
theorem uw_5_in : ∀ w ∈ uw_5, w ∈ lw_good := mem_goods [1140, 1132, 1129, 1131, 1136, 1133, 1135, 1089, 21, 1118, 1088, 1122, 1119, 1121, 1128, 511, 241, 556, 553, 554, 555, 564, 561, 562, 563, 749, 3, 754, 747, 748, 766, 771, 764, 765, 491, 772, 490, 113, 114, 118, 4, 116, 117, 874, 871, 873, 806, 816, 198, 199, 181, 180, 202, 203, 201, 207, 206, 536, 533, 534] rfl (by decide +kernel)
theorem wi_X5_comesOf : Cond.instanceMethod yX5_comesOf ∈ lw_good := uw_5_in _ (List.mem_of_getElem? (i := 0) rfl)
theorem wc_X5_seek : Cond.code yX5_seek cX5_seek 7 none ∈ lw_good := uw_5_in _ (List.mem_of_getElem? (i := 1) rfl)
theorem km_X5_60 : Cond.methodLink RX5 60 yX5_seek ∈ lw_good := uw_5_in _ (List.mem_of_getElem? (i := 2) rfl)
theorem wi_X5_seek : Cond.instanceMethod yX5_seek ∈ lw_good := uw_5_in _ (List.mem_of_getElem? (i := 3) rfl)
theorem wc_X5_noteRow : Cond.code yX5_noteRow cX5_noteRow 1 none ∈ lw_good := uw_5_in _ (List.mem_of_getElem? (i := 4) rfl)
theorem km_X5_81 : Cond.methodLink RX5 81 yX5_noteRow ∈ lw_good := uw_5_in _ (List.mem_of_getElem? (i := 5) rfl)
theorem wi_X5_noteRow : Cond.instanceMethod yX5_noteRow ∈ lw_good := uw_5_in _ (List.mem_of_getElem? (i := 6) rfl)
theorem wc_J6_bitCount_0f7a4 : Cond.code yJ6_bitCount_0f7a4 cJ6_bitCount_0f7a4 1 (some .int) ∈ lw_good := uw_5_in _ (List.mem_of_getElem? (i := 7) rfl)
theorem wn_J6 : Cond.initialized RJ6 ∈ lw_good := uw_5_in _ (List.mem_of_getElem? (i := 8) rfl)
theorem km_X5_64 : Cond.methodLink RX5 64 yJ6_bitCount_0f7a4 ∈ lw_good := uw_5_in _ (List.mem_of_getElem? (i := 9) rfl)
theorem wt_J6_bitCount_0f7a4 : Cond.static yJ6_bitCount_0f7a4 ∈ lw_good := uw_5_in _ (List.mem_of_getElem? (i := 10) rfl)
theorem wc_X5_nearest : Cond.code yX5_nearest cX5_nearest 5 (some .int) ∈ lw_good := uw_5_in _ (List.mem_of_getElem? (i := 11) rfl)
theorem km_X5_69 : Cond.methodLink RX5 69 yX5_nearest ∈ lw_good := uw_5_in _ (List.mem_of_getElem? (i := 12) rfl)
theorem wi_X5_nearest : Cond.instanceMethod yX5_nearest ∈ lw_good := uw_5_in _ (List.mem_of_getElem? (i := 13) rfl)
theorem km_X5_78 : Cond.methodLink RX5 78 Lib.Math.max.name ∈ lw_good := uw_5_in _ (List.mem_of_getElem? (i := 14) rfl)
theorem km_X6_25 : Cond.methodLink RX6 25 yX6_lengthOf ∈ lw_good := uw_5_in _ (List.mem_of_getElem? (i := 15) rfl)
theorem kf_X6_33 : Cond.fieldLink RX6 33 RX6 (TX6 3).2.1 (TX6 3).2.2.1 ∈ lw_good := uw_5_in _ (List.mem_of_getElem? (i := 16) rfl)
theorem wc_X6_hasPlace : Cond.code yX6_hasPlace cX6_hasPlace 2 (some .boolean) ∈ lw_good := uw_5_in _ (List.mem_of_getElem? (i := 17) rfl)
theorem km_X6_36 : Cond.methodLink RX6 36 yX6_hasPlace ∈ lw_good := uw_5_in _ (List.mem_of_getElem? (i := 18) rfl)
theorem wi_X6_hasPlace : Cond.instanceMethod yX6_hasPlace ∈ lw_good := uw_5_in _ (List.mem_of_getElem? (i := 19) rfl)
theorem wl_X6_hasPlace : Cond.selects RX6 yX6_hasPlace yX6_hasPlace ∈ lw_good := uw_5_in _ (List.mem_of_getElem? (i := 20) rfl)
theorem wc_X6_hasRoomAt : Cond.code yX6_hasRoomAt cX6_hasRoomAt 2 (some .boolean) ∈ lw_good := uw_5_in _ (List.mem_of_getElem? (i := 21) rfl)
theorem km_X6_40 : Cond.methodLink RX6 40 yX6_hasRoomAt ∈ lw_good := uw_5_in _ (List.mem_of_getElem? (i := 22) rfl)
theorem wi_X6_hasRoomAt : Cond.instanceMethod yX6_hasRoomAt ∈ lw_good := uw_5_in _ (List.mem_of_getElem? (i := 23) rfl)
theorem wl_X6_hasRoomAt : Cond.selects RX6 yX6_hasRoomAt yX6_hasRoomAt ∈ lw_good := uw_5_in _ (List.mem_of_getElem? (i := 24) rfl)
theorem wc_X7_hasRoomFor : Cond.code yX7_hasRoomFor cX7_hasRoomFor 2 (some .boolean) ∈ lw_good := uw_5_in _ (List.mem_of_getElem? (i := 25) rfl)
theorem wn_X7 : Cond.initialized RX7 ∈ lw_good := uw_5_in _ (List.mem_of_getElem? (i := 26) rfl)
theorem km_X7_37 : Cond.methodLink RX7 37 yX7_hasRoomFor ∈ lw_good := uw_5_in _ (List.mem_of_getElem? (i := 27) rfl)
theorem wi_X7_hasRoomFor : Cond.instanceMethod yX7_hasRoomFor ∈ lw_good := uw_5_in _ (List.mem_of_getElem? (i := 28) rfl)
theorem wl_X7_hasRoomFor : Cond.selects RX7 yX7_hasRoomFor yX7_hasRoomFor ∈ lw_good := uw_5_in _ (List.mem_of_getElem? (i := 29) rfl)
theorem wc_X7_byteAt : Cond.code yX7_byteAt cX7_byteAt 2 (some .int) ∈ lw_good := uw_5_in _ (List.mem_of_getElem? (i := 30) rfl)
theorem km_X7_41 : Cond.methodLink RX7 41 yX7_byteAt ∈ lw_good := uw_5_in _ (List.mem_of_getElem? (i := 31) rfl)
theorem wi_X7_byteAt : Cond.instanceMethod yX7_byteAt ∈ lw_good := uw_5_in _ (List.mem_of_getElem? (i := 32) rfl)
theorem wl_X7_byteAt : Cond.selects RX7 yX7_byteAt yX7_byteAt ∈ lw_good := uw_5_in _ (List.mem_of_getElem? (i := 33) rfl)
theorem wc_X6_rankOf : Cond.code yX6_rankOf cX6_rankOf 6 (some .int) ∈ lw_good := uw_5_in _ (List.mem_of_getElem? (i := 34) rfl)
theorem km_X7_45 : Cond.methodLink RX7 45 yX6_rankOf ∈ lw_good := uw_5_in _ (List.mem_of_getElem? (i := 35) rfl)
theorem wt_X6_rankOf : Cond.static yX6_rankOf ∈ lw_good := uw_5_in _ (List.mem_of_getElem? (i := 36) rfl)
theorem km_X7_3 : Cond.methodLink RX7 3 Lib.objectInit ∈ lw_good := uw_5_in _ (List.mem_of_getElem? (i := 37) rfl)
theorem kk_X7_21 : Cond.classLink RX7 21 RX9 ∈ lw_good := uw_5_in _ (List.mem_of_getElem? (i := 38) rfl)
theorem wc_X9_init : Cond.code yX9_init cX9_init 3 none ∈ lw_good := uw_5_in _ (List.mem_of_getElem? (i := 39) rfl)
theorem wn_X9 : Cond.initialized RX9 ∈ lw_good := uw_5_in _ (List.mem_of_getElem? (i := 40) rfl)
theorem km_X7_23 : Cond.methodLink RX7 23 yX9_init ∈ lw_good := uw_5_in _ (List.mem_of_getElem? (i := 41) rfl)
theorem wi_X9_init : Cond.instanceMethod yX9_init ∈ lw_good := uw_5_in _ (List.mem_of_getElem? (i := 42) rfl)
theorem wc_X7_next : Cond.code yX7_next cX7_next 1 none ∈ lw_good := uw_5_in _ (List.mem_of_getElem? (i := 43) rfl)
theorem km_X7_79 : Cond.methodLink RX7 79 yX7_next ∈ lw_good := uw_5_in _ (List.mem_of_getElem? (i := 44) rfl)
theorem wi_X7_next : Cond.instanceMethod yX7_next ∈ lw_good := uw_5_in _ (List.mem_of_getElem? (i := 45) rfl)
theorem km_X7_100 : Cond.methodLink RX7 100 yJ0_length_8abf5 ∈ lw_good := uw_5_in _ (List.mem_of_getElem? (i := 46) rfl)
theorem km_X7_106 : Cond.methodLink RX7 106 yJ0_charAt_5068e ∈ lw_good := uw_5_in _ (List.mem_of_getElem? (i := 47) rfl)
theorem km_X8_3 : Cond.methodLink RX8 3 Lib.objectInit ∈ lw_good := uw_5_in _ (List.mem_of_getElem? (i := 48) rfl)
theorem kk_X8_9 : Cond.classLink RX8 9 RX3 ∈ lw_good := uw_5_in _ (List.mem_of_getElem? (i := 49) rfl)
theorem wc_X3_init : Cond.code yX3_init cX3_init 1 none ∈ lw_good := uw_5_in _ (List.mem_of_getElem? (i := 50) rfl)
theorem wi_X3_init : Cond.instanceMethod yX3_init ∈ lw_good := uw_5_in _ (List.mem_of_getElem? (i := 51) rfl)
theorem kf_X8_12 : Cond.fieldLink RX8 12 RX8 (TX8 1).2.1 (TX8 1).2.2.1 ∈ lw_good := uw_5_in _ (List.mem_of_getElem? (i := 52) rfl)
theorem kf_X8_18 : Cond.fieldLink RX8 18 RX8 (TX8 2).2.1 (TX8 2).2.2.1 ∈ lw_good := uw_5_in _ (List.mem_of_getElem? (i := 53) rfl)
theorem kf_X8_22 : Cond.fieldLink RX8 22 RX8 (TX8 0).2.1 (TX8 0).2.2.1 ∈ lw_good := uw_5_in _ (List.mem_of_getElem? (i := 54) rfl)
theorem kf_X8_26 : Cond.fieldLink RX8 26 RX8 (TX8 6).2.1 (TX8 6).2.2.1 ∈ lw_good := uw_5_in _ (List.mem_of_getElem? (i := 55) rfl)
theorem kf_X8_40 : Cond.fieldLink RX8 40 RX8 (TX8 5).2.1 (TX8 5).2.2.1 ∈ lw_good := uw_5_in _ (List.mem_of_getElem? (i := 56) rfl)
theorem wc_X10_textInForce : Cond.code yX10_textInForce cX10_textInForce 1 (some (.object "DishLines$Text")) ∈ lw_good := uw_5_in _ (List.mem_of_getElem? (i := 57) rfl)
theorem km_X8_46 : Cond.methodLink RX8 46 yX10_textInForce ∈ lw_good := uw_5_in _ (List.mem_of_getElem? (i := 58) rfl)
theorem wi_X10_textInForce : Cond.instanceMethod yX10_textInForce ∈ lw_good := uw_5_in _ (List.mem_of_getElem? (i := 59) rfl)
def uw_6 : List Cond := [Cond.selects RX10 yX10_textInForce yX10_textInForce, Cond.fieldLink RX8 50 RX8 (TX8 4).2.1 (TX8 4).2.2.1, Cond.fieldLink RX8 34 RX9 (TX9 4).2.1 (TX9 4).2.2.1, Cond.classLink RX9 9 RX9, Cond.methodLink RX9 25 yX9_init, Cond.methodLink RX9 28 arraycopyName, Cond.code yX9_set cX9_set 4 none, Cond.methodLink RX9 38 yX9_set, Cond.instanceMethod yX9_set, Cond.selects RX9 yX9_set yX9_set, Cond.code yX6_tasteOf cX6_tasteOf 5 (some .int), Cond.methodLink RX10 70 yX6_tasteOf, Cond.static yX6_tasteOf, Cond.fieldLink RX11 16 RX11 (TX11 1).2.1 (TX11 1).2.2.1, Cond.code yX10_takeFrom cX10_takeFrom 2 none, Cond.methodLink RX11 362 yX10_takeFrom, Cond.instanceMethod yX10_takeFrom, Cond.selects RX10 yX10_takeFrom yX10_takeFrom, Cond.methodLink RX11 111 yX6_rankOf, Cond.code yX6_leftOut cX6_leftOut 8 (some .int), Cond.methodLink RX11 340 yX6_leftOut, Cond.static yX6_leftOut, Cond.fieldLink RX11 347 RX11 (TX11 11).2.1 (TX11 11).2.2.1, Cond.fieldLink RX11 79 RX11 (TX11 10).2.1 (TX11 10).2.2.1, Cond.code yX6_numberOf cX6_numberOf 6 (some .int), Cond.methodLink RX11 146 yX6_numberOf, Cond.static yX6_numberOf, Cond.methodLink RX11 170 yX7_hasRoomFor, Cond.code yX7_addFour cX7_addFour 3 none, Cond.methodLink RX11 173 yX7_addFour, Cond.instanceMethod yX7_addFour, Cond.selects RX7 yX7_addFour yX7_addFour, Cond.classLink RX11 7 RX10, Cond.code yX10_init cX10_init 1 none, Cond.instanceMethod yX10_init, Cond.methodLink RX11 1 Lib.objectInit, Cond.classLink RX11 20 RX7, Cond.code yX7_init cX7_init 1 none, Cond.instanceMethod yX7_init, Cond.classLink RX11 27 RX3, Cond.classLink RX11 34 RX8, Cond.code yX8_init cX8_init 2 none, Cond.initialized RX8, Cond.methodLink RX11 36 yX8_init, Cond.instanceMethod yX8_init, Cond.fieldLink RX11 39 RX11 (TX11 4).2.1 (TX11 4).2.2.1, Cond.classLink RX11 43 RX1, Cond.code yX1_init cX1_init 3 none, Cond.initialized RX1, Cond.methodLink RX11 45 yX1_init, Cond.instanceMethod yX1_init, Cond.fieldLink RX11 48 RX11 (TX11 5).2.1 (TX11 5).2.2.1, Cond.classLink RX11 52 RX4, Cond.code yX4_init cX4_init 3 none, Cond.initialized RX4, Cond.methodLink RX11 54 yX4_init, Cond.instanceMethod yX4_init, Cond.fieldLink RX11 55 RX11 (TX11 6).2.1 (TX11 6).2.2.1, Cond.classLink RX11 59 RX5, Cond.code yX5_init cX5_init 1 none]
theorem uw_6_in : ∀ w ∈ uw_6, w ∈ lw_good := mem_goods [535, 205, 129, 953, 954, 955, 870, 867, 868, 869, 510, 508, 509, 407, 1224, 1221, 1222, 1223, 489, 1192, 1190, 1191, 417, 416, 626, 624, 625, 746, 753, 750, 751, 752, 30, 34, 33, 27, 108, 112, 111, 177, 193, 197, 6, 195, 196, 410, 223, 227, 7, 225, 226, 411, 284, 288, 9, 286, 287, 412, 326, 330] rfl (by decide +kernel)
theorem wl_X10_textInForce : Cond.selects RX10 yX10_textInForce yX10_textInForce ∈ lw_good := uw_6_in _ (List.mem_of_getElem? (i := 0) rfl)
theorem kf_X8_50 : Cond.fieldLink RX8 50 RX8 (TX8 4).2.1 (TX8 4).2.2.1 ∈ lw_good := uw_6_in _ (List.mem_of_getElem? (i := 1) rfl)
theorem kf_X8_34 : Cond.fieldLink RX8 34 RX9 (TX9 4).2.1 (TX9 4).2.2.1 ∈ lw_good := uw_6_in _ (List.mem_of_getElem? (i := 2) rfl)
theorem kk_X9_9 : Cond.classLink RX9 9 RX9 ∈ lw_good := uw_6_in _ (List.mem_of_getElem? (i := 3) rfl)
theorem km_X9_25 : Cond.methodLink RX9 25 yX9_init ∈ lw_good := uw_6_in _ (List.mem_of_getElem? (i := 4) rfl)
theorem km_X9_28 : Cond.methodLink RX9 28 arraycopyName ∈ lw_good := uw_6_in _ (List.mem_of_getElem? (i := 5) rfl)
theorem wc_X9_set : Cond.code yX9_set cX9_set 4 none ∈ lw_good := uw_6_in _ (List.mem_of_getElem? (i := 6) rfl)
theorem km_X9_38 : Cond.methodLink RX9 38 yX9_set ∈ lw_good := uw_6_in _ (List.mem_of_getElem? (i := 7) rfl)
theorem wi_X9_set : Cond.instanceMethod yX9_set ∈ lw_good := uw_6_in _ (List.mem_of_getElem? (i := 8) rfl)
theorem wl_X9_set : Cond.selects RX9 yX9_set yX9_set ∈ lw_good := uw_6_in _ (List.mem_of_getElem? (i := 9) rfl)
theorem wc_X6_tasteOf : Cond.code yX6_tasteOf cX6_tasteOf 5 (some .int) ∈ lw_good := uw_6_in _ (List.mem_of_getElem? (i := 10) rfl)
theorem km_X10_70 : Cond.methodLink RX10 70 yX6_tasteOf ∈ lw_good := uw_6_in _ (List.mem_of_getElem? (i := 11) rfl)
theorem wt_X6_tasteOf : Cond.static yX6_tasteOf ∈ lw_good := uw_6_in _ (List.mem_of_getElem? (i := 12) rfl)
theorem kf_X11_16 : Cond.fieldLink RX11 16 RX11 (TX11 1).2.1 (TX11 1).2.2.1 ∈ lw_good := uw_6_in _ (List.mem_of_getElem? (i := 13) rfl)
theorem wc_X10_takeFrom : Cond.code yX10_takeFrom cX10_takeFrom 2 none ∈ lw_good := uw_6_in _ (List.mem_of_getElem? (i := 14) rfl)
theorem km_X11_362 : Cond.methodLink RX11 362 yX10_takeFrom ∈ lw_good := uw_6_in _ (List.mem_of_getElem? (i := 15) rfl)
theorem wi_X10_takeFrom : Cond.instanceMethod yX10_takeFrom ∈ lw_good := uw_6_in _ (List.mem_of_getElem? (i := 16) rfl)
theorem wl_X10_takeFrom : Cond.selects RX10 yX10_takeFrom yX10_takeFrom ∈ lw_good := uw_6_in _ (List.mem_of_getElem? (i := 17) rfl)
theorem km_X11_111 : Cond.methodLink RX11 111 yX6_rankOf ∈ lw_good := uw_6_in _ (List.mem_of_getElem? (i := 18) rfl)
theorem wc_X6_leftOut : Cond.code yX6_leftOut cX6_leftOut 8 (some .int) ∈ lw_good := uw_6_in _ (List.mem_of_getElem? (i := 19) rfl)
theorem km_X11_340 : Cond.methodLink RX11 340 yX6_leftOut ∈ lw_good := uw_6_in _ (List.mem_of_getElem? (i := 20) rfl)
theorem wt_X6_leftOut : Cond.static yX6_leftOut ∈ lw_good := uw_6_in _ (List.mem_of_getElem? (i := 21) rfl)
theorem kf_X11_347 : Cond.fieldLink RX11 347 RX11 (TX11 11).2.1 (TX11 11).2.2.1 ∈ lw_good := uw_6_in _ (List.mem_of_getElem? (i := 22) rfl)
theorem kf_X11_79 : Cond.fieldLink RX11 79 RX11 (TX11 10).2.1 (TX11 10).2.2.1 ∈ lw_good := uw_6_in _ (List.mem_of_getElem? (i := 23) rfl)
theorem wc_X6_numberOf : Cond.code yX6_numberOf cX6_numberOf 6 (some .int) ∈ lw_good := uw_6_in _ (List.mem_of_getElem? (i := 24) rfl)
theorem km_X11_146 : Cond.methodLink RX11 146 yX6_numberOf ∈ lw_good := uw_6_in _ (List.mem_of_getElem? (i := 25) rfl)
theorem wt_X6_numberOf : Cond.static yX6_numberOf ∈ lw_good := uw_6_in _ (List.mem_of_getElem? (i := 26) rfl)
theorem km_X11_170 : Cond.methodLink RX11 170 yX7_hasRoomFor ∈ lw_good := uw_6_in _ (List.mem_of_getElem? (i := 27) rfl)
theorem wc_X7_addFour : Cond.code yX7_addFour cX7_addFour 3 none ∈ lw_good := uw_6_in _ (List.mem_of_getElem? (i := 28) rfl)
theorem km_X11_173 : Cond.methodLink RX11 173 yX7_addFour ∈ lw_good := uw_6_in _ (List.mem_of_getElem? (i := 29) rfl)
theorem wi_X7_addFour : Cond.instanceMethod yX7_addFour ∈ lw_good := uw_6_in _ (List.mem_of_getElem? (i := 30) rfl)
theorem wl_X7_addFour : Cond.selects RX7 yX7_addFour yX7_addFour ∈ lw_good := uw_6_in _ (List.mem_of_getElem? (i := 31) rfl)
theorem kk_X11_7 : Cond.classLink RX11 7 RX10 ∈ lw_good := uw_6_in _ (List.mem_of_getElem? (i := 32) rfl)
theorem wc_X10_init : Cond.code yX10_init cX10_init 1 none ∈ lw_good := uw_6_in _ (List.mem_of_getElem? (i := 33) rfl)
theorem wi_X10_init : Cond.instanceMethod yX10_init ∈ lw_good := uw_6_in _ (List.mem_of_getElem? (i := 34) rfl)
theorem km_X11_1 : Cond.methodLink RX11 1 Lib.objectInit ∈ lw_good := uw_6_in _ (List.mem_of_getElem? (i := 35) rfl)
theorem kk_X11_20 : Cond.classLink RX11 20 RX7 ∈ lw_good := uw_6_in _ (List.mem_of_getElem? (i := 36) rfl)
theorem wc_X7_init : Cond.code yX7_init cX7_init 1 none ∈ lw_good := uw_6_in _ (List.mem_of_getElem? (i := 37) rfl)
theorem wi_X7_init : Cond.instanceMethod yX7_init ∈ lw_good := uw_6_in _ (List.mem_of_getElem? (i := 38) rfl)
theorem kk_X11_27 : Cond.classLink RX11 27 RX3 ∈ lw_good := uw_6_in _ (List.mem_of_getElem? (i := 39) rfl)
theorem kk_X11_34 : Cond.classLink RX11 34 RX8 ∈ lw_good := uw_6_in _ (List.mem_of_getElem? (i := 40) rfl)
theorem wc_X8_init : Cond.code yX8_init cX8_init 2 none ∈ lw_good := uw_6_in _ (List.mem_of_getElem? (i := 41) rfl)
theorem wn_X8 : Cond.initialized RX8 ∈ lw_good := uw_6_in _ (List.mem_of_getElem? (i := 42) rfl)
theorem km_X11_36 : Cond.methodLink RX11 36 yX8_init ∈ lw_good := uw_6_in _ (List.mem_of_getElem? (i := 43) rfl)
theorem wi_X8_init : Cond.instanceMethod yX8_init ∈ lw_good := uw_6_in _ (List.mem_of_getElem? (i := 44) rfl)
theorem kf_X11_39 : Cond.fieldLink RX11 39 RX11 (TX11 4).2.1 (TX11 4).2.2.1 ∈ lw_good := uw_6_in _ (List.mem_of_getElem? (i := 45) rfl)
theorem kk_X11_43 : Cond.classLink RX11 43 RX1 ∈ lw_good := uw_6_in _ (List.mem_of_getElem? (i := 46) rfl)
theorem wc_X1_init : Cond.code yX1_init cX1_init 3 none ∈ lw_good := uw_6_in _ (List.mem_of_getElem? (i := 47) rfl)
theorem wn_X1 : Cond.initialized RX1 ∈ lw_good := uw_6_in _ (List.mem_of_getElem? (i := 48) rfl)
theorem km_X11_45 : Cond.methodLink RX11 45 yX1_init ∈ lw_good := uw_6_in _ (List.mem_of_getElem? (i := 49) rfl)
theorem wi_X1_init : Cond.instanceMethod yX1_init ∈ lw_good := uw_6_in _ (List.mem_of_getElem? (i := 50) rfl)
theorem kf_X11_48 : Cond.fieldLink RX11 48 RX11 (TX11 5).2.1 (TX11 5).2.2.1 ∈ lw_good := uw_6_in _ (List.mem_of_getElem? (i := 51) rfl)
theorem kk_X11_52 : Cond.classLink RX11 52 RX4 ∈ lw_good := uw_6_in _ (List.mem_of_getElem? (i := 52) rfl)
theorem wc_X4_init : Cond.code yX4_init cX4_init 3 none ∈ lw_good := uw_6_in _ (List.mem_of_getElem? (i := 53) rfl)
theorem wn_X4 : Cond.initialized RX4 ∈ lw_good := uw_6_in _ (List.mem_of_getElem? (i := 54) rfl)
theorem km_X11_54 : Cond.methodLink RX11 54 yX4_init ∈ lw_good := uw_6_in _ (List.mem_of_getElem? (i := 55) rfl)
theorem wi_X4_init : Cond.instanceMethod yX4_init ∈ lw_good := uw_6_in _ (List.mem_of_getElem? (i := 56) rfl)
theorem kf_X11_55 : Cond.fieldLink RX11 55 RX11 (TX11 6).2.1 (TX11 6).2.2.1 ∈ lw_good := uw_6_in _ (List.mem_of_getElem? (i := 57) rfl)
theorem kk_X11_59 : Cond.classLink RX11 59 RX5 ∈ lw_good := uw_6_in _ (List.mem_of_getElem? (i := 58) rfl)
theorem wc_X5_init : Cond.code yX5_init cX5_init 1 none ∈ lw_good := uw_6_in _ (List.mem_of_getElem? (i := 59) rfl)
def uw_7 : List Cond := [Cond.instanceMethod yX5_init, Cond.fieldLink RX11 62 RX11 (TX11 7).2.1 (TX11 7).2.2.1, Cond.classLink RX11 66 RX0, Cond.code yX0_init cX0_init 4 none, Cond.initialized RX0, Cond.methodLink RX11 68 yX0_init, Cond.instanceMethod yX0_init, Cond.fieldLink RX11 71 RX11 (TX11 8).2.1 (TX11 8).2.2.1, Cond.code yX10_yearBehind cX10_yearBehind 4 (some .int), Cond.methodLink RX11 269 yX10_yearBehind, Cond.instanceMethod yX10_yearBehind, Cond.selects RX10 yX10_yearBehind yX10_yearBehind, Cond.code yX10_isPoor cX10_isPoor 5 (some .boolean), Cond.methodLink RX11 272 yX10_isPoor, Cond.instanceMethod yX10_isPoor, Cond.selects RX10 yX10_isPoor yX10_isPoor, Cond.code yX11_isValueOf cX11_isValueOf 3 (some .boolean), Cond.methodLink RX11 93 yX11_isValueOf, Cond.static yX11_isValueOf, Cond.code yX10_gotInstead cX10_gotInstead 4 (some .int), Cond.methodLink RX11 343 yX10_gotInstead, Cond.instanceMethod yX10_gotInstead, Cond.selects RX10 yX10_gotInstead yX10_gotInstead, Cond.code yX10_toldOf cX10_toldOf 2 (some .int), Cond.methodLink RX11 276 yX10_toldOf, Cond.instanceMethod yX10_toldOf, Cond.selects RX10 yX10_toldOf yX10_toldOf, Cond.code yX10_groupsBy cX10_groupsBy 6 (some .int), Cond.methodLink RX11 334 yX10_groupsBy, Cond.instanceMethod yX10_groupsBy, Cond.selects RX10 yX10_groupsBy yX10_groupsBy, Cond.methodLink RX11 291 yJ6_bitCount_0f7a4, Cond.code yJ7_fill_53178 cJ7_fill_53178 4 none, Cond.methodLink RX11 371 yJ7_fill_53178, Cond.static yJ7_fill_53178, Cond.code yX11_tellHouse cX11_tellHouse 3 none, Cond.methodLink RX11 377 yX11_tellHouse, Cond.instanceMethod yX11_tellHouse, Cond.code yX10_keepHouses cX10_keepHouses 2 none, Cond.methodLink RX11 139 yX10_keepHouses, Cond.instanceMethod yX10_keepHouses, Cond.selects RX10 yX10_keepHouses yX10_keepHouses, Cond.code yX12_isDish cX12_isDish 2 (some .boolean), Cond.methodLink RX12 184 yX12_isDish, Cond.static yX12_isDish, Cond.code yX12_without cX12_without 5 (some .int), Cond.methodLink RX12 413 yX12_without, Cond.instanceMethod yX12_without, Cond.code yX12_areAlike cX12_areAlike 5 (some .boolean), Cond.methodLink RX12 407 yX12_areAlike, Cond.instanceMethod yX12_areAlike, Cond.fieldLink RX12 246 RX12 (TX12 24).2.1 (TX12 24).2.2.1, Cond.code yX12_faults cX12_faults 1 none, Cond.methodLink RX12 243 yX12_faults, Cond.instanceMethod yX12_faults, Cond.code yX12_takes0 cX12_takes0 3 (some .boolean), Cond.methodLink RX12 240 yX12_takes0, Cond.instanceMethod yX12_takes0, Cond.code yX12_isThing cX12_isThing 1 (some .boolean), Cond.methodLink RX12 134 yX12_isThing]
theorem uw_7_in : ∀ w ∈ uw_7, w ∈ lw_good := mem_goods [329, 413, 371, 375, 11, 373, 374, 414, 1056, 1053, 1054, 1055, 1060, 1057, 1058, 1059, 464, 462, 463, 1200, 1197, 1198, 1199, 1069, 1066, 1067, 1068, 1181, 1178, 1179, 1180, 1087, 973, 971, 972, 977, 974, 976, 619, 616, 617, 618, 1464, 1462, 1463, 1826, 1823, 1825, 1818, 1815, 1817, 1270, 1665, 1662, 1664, 1645, 1642, 1644, 1450, 1448] rfl (by decide +kernel)
theorem wi_X5_init : Cond.instanceMethod yX5_init ∈ lw_good := uw_7_in _ (List.mem_of_getElem? (i := 0) rfl)
theorem kf_X11_62 : Cond.fieldLink RX11 62 RX11 (TX11 7).2.1 (TX11 7).2.2.1 ∈ lw_good := uw_7_in _ (List.mem_of_getElem? (i := 1) rfl)
theorem kk_X11_66 : Cond.classLink RX11 66 RX0 ∈ lw_good := uw_7_in _ (List.mem_of_getElem? (i := 2) rfl)
theorem wc_X0_init : Cond.code yX0_init cX0_init 4 none ∈ lw_good := uw_7_in _ (List.mem_of_getElem? (i := 3) rfl)
theorem wn_X0 : Cond.initialized RX0 ∈ lw_good := uw_7_in _ (List.mem_of_getElem? (i := 4) rfl)
theorem km_X11_68 : Cond.methodLink RX11 68 yX0_init ∈ lw_good := uw_7_in _ (List.mem_of_getElem? (i := 5) rfl)
theorem wi_X0_init : Cond.instanceMethod yX0_init ∈ lw_good := uw_7_in _ (List.mem_of_getElem? (i := 6) rfl)
theorem kf_X11_71 : Cond.fieldLink RX11 71 RX11 (TX11 8).2.1 (TX11 8).2.2.1 ∈ lw_good := uw_7_in _ (List.mem_of_getElem? (i := 7) rfl)
theorem wc_X10_yearBehind : Cond.code yX10_yearBehind cX10_yearBehind 4 (some .int) ∈ lw_good := uw_7_in _ (List.mem_of_getElem? (i := 8) rfl)
theorem km_X11_269 : Cond.methodLink RX11 269 yX10_yearBehind ∈ lw_good := uw_7_in _ (List.mem_of_getElem? (i := 9) rfl)
theorem wi_X10_yearBehind : Cond.instanceMethod yX10_yearBehind ∈ lw_good := uw_7_in _ (List.mem_of_getElem? (i := 10) rfl)
theorem wl_X10_yearBehind : Cond.selects RX10 yX10_yearBehind yX10_yearBehind ∈ lw_good := uw_7_in _ (List.mem_of_getElem? (i := 11) rfl)
theorem wc_X10_isPoor : Cond.code yX10_isPoor cX10_isPoor 5 (some .boolean) ∈ lw_good := uw_7_in _ (List.mem_of_getElem? (i := 12) rfl)
theorem km_X11_272 : Cond.methodLink RX11 272 yX10_isPoor ∈ lw_good := uw_7_in _ (List.mem_of_getElem? (i := 13) rfl)
theorem wi_X10_isPoor : Cond.instanceMethod yX10_isPoor ∈ lw_good := uw_7_in _ (List.mem_of_getElem? (i := 14) rfl)
theorem wl_X10_isPoor : Cond.selects RX10 yX10_isPoor yX10_isPoor ∈ lw_good := uw_7_in _ (List.mem_of_getElem? (i := 15) rfl)
theorem wc_X11_isValueOf : Cond.code yX11_isValueOf cX11_isValueOf 3 (some .boolean) ∈ lw_good := uw_7_in _ (List.mem_of_getElem? (i := 16) rfl)
theorem km_X11_93 : Cond.methodLink RX11 93 yX11_isValueOf ∈ lw_good := uw_7_in _ (List.mem_of_getElem? (i := 17) rfl)
theorem wt_X11_isValueOf : Cond.static yX11_isValueOf ∈ lw_good := uw_7_in _ (List.mem_of_getElem? (i := 18) rfl)
theorem wc_X10_gotInstead : Cond.code yX10_gotInstead cX10_gotInstead 4 (some .int) ∈ lw_good := uw_7_in _ (List.mem_of_getElem? (i := 19) rfl)
theorem km_X11_343 : Cond.methodLink RX11 343 yX10_gotInstead ∈ lw_good := uw_7_in _ (List.mem_of_getElem? (i := 20) rfl)
theorem wi_X10_gotInstead : Cond.instanceMethod yX10_gotInstead ∈ lw_good := uw_7_in _ (List.mem_of_getElem? (i := 21) rfl)
theorem wl_X10_gotInstead : Cond.selects RX10 yX10_gotInstead yX10_gotInstead ∈ lw_good := uw_7_in _ (List.mem_of_getElem? (i := 22) rfl)
theorem wc_X10_toldOf : Cond.code yX10_toldOf cX10_toldOf 2 (some .int) ∈ lw_good := uw_7_in _ (List.mem_of_getElem? (i := 23) rfl)
theorem km_X11_276 : Cond.methodLink RX11 276 yX10_toldOf ∈ lw_good := uw_7_in _ (List.mem_of_getElem? (i := 24) rfl)
theorem wi_X10_toldOf : Cond.instanceMethod yX10_toldOf ∈ lw_good := uw_7_in _ (List.mem_of_getElem? (i := 25) rfl)
theorem wl_X10_toldOf : Cond.selects RX10 yX10_toldOf yX10_toldOf ∈ lw_good := uw_7_in _ (List.mem_of_getElem? (i := 26) rfl)
theorem wc_X10_groupsBy : Cond.code yX10_groupsBy cX10_groupsBy 6 (some .int) ∈ lw_good := uw_7_in _ (List.mem_of_getElem? (i := 27) rfl)
theorem km_X11_334 : Cond.methodLink RX11 334 yX10_groupsBy ∈ lw_good := uw_7_in _ (List.mem_of_getElem? (i := 28) rfl)
theorem wi_X10_groupsBy : Cond.instanceMethod yX10_groupsBy ∈ lw_good := uw_7_in _ (List.mem_of_getElem? (i := 29) rfl)
theorem wl_X10_groupsBy : Cond.selects RX10 yX10_groupsBy yX10_groupsBy ∈ lw_good := uw_7_in _ (List.mem_of_getElem? (i := 30) rfl)
theorem km_X11_291 : Cond.methodLink RX11 291 yJ6_bitCount_0f7a4 ∈ lw_good := uw_7_in _ (List.mem_of_getElem? (i := 31) rfl)
theorem wc_J7_fill_53178 : Cond.code yJ7_fill_53178 cJ7_fill_53178 4 none ∈ lw_good := uw_7_in _ (List.mem_of_getElem? (i := 32) rfl)
theorem km_X11_371 : Cond.methodLink RX11 371 yJ7_fill_53178 ∈ lw_good := uw_7_in _ (List.mem_of_getElem? (i := 33) rfl)
theorem wt_J7_fill_53178 : Cond.static yJ7_fill_53178 ∈ lw_good := uw_7_in _ (List.mem_of_getElem? (i := 34) rfl)
theorem wc_X11_tellHouse : Cond.code yX11_tellHouse cX11_tellHouse 3 none ∈ lw_good := uw_7_in _ (List.mem_of_getElem? (i := 35) rfl)
theorem km_X11_377 : Cond.methodLink RX11 377 yX11_tellHouse ∈ lw_good := uw_7_in _ (List.mem_of_getElem? (i := 36) rfl)
theorem wi_X11_tellHouse : Cond.instanceMethod yX11_tellHouse ∈ lw_good := uw_7_in _ (List.mem_of_getElem? (i := 37) rfl)
theorem wc_X10_keepHouses : Cond.code yX10_keepHouses cX10_keepHouses 2 none ∈ lw_good := uw_7_in _ (List.mem_of_getElem? (i := 38) rfl)
theorem km_X11_139 : Cond.methodLink RX11 139 yX10_keepHouses ∈ lw_good := uw_7_in _ (List.mem_of_getElem? (i := 39) rfl)
theorem wi_X10_keepHouses : Cond.instanceMethod yX10_keepHouses ∈ lw_good := uw_7_in _ (List.mem_of_getElem? (i := 40) rfl)
theorem wl_X10_keepHouses : Cond.selects RX10 yX10_keepHouses yX10_keepHouses ∈ lw_good := uw_7_in _ (List.mem_of_getElem? (i := 41) rfl)
theorem wc_X12_isDish : Cond.code yX12_isDish cX12_isDish 2 (some .boolean) ∈ lw_good := uw_7_in _ (List.mem_of_getElem? (i := 42) rfl)
theorem km_X12_184 : Cond.methodLink RX12 184 yX12_isDish ∈ lw_good := uw_7_in _ (List.mem_of_getElem? (i := 43) rfl)
theorem wt_X12_isDish : Cond.static yX12_isDish ∈ lw_good := uw_7_in _ (List.mem_of_getElem? (i := 44) rfl)
theorem wc_X12_without : Cond.code yX12_without cX12_without 5 (some .int) ∈ lw_good := uw_7_in _ (List.mem_of_getElem? (i := 45) rfl)
theorem km_X12_413 : Cond.methodLink RX12 413 yX12_without ∈ lw_good := uw_7_in _ (List.mem_of_getElem? (i := 46) rfl)
theorem wi_X12_without : Cond.instanceMethod yX12_without ∈ lw_good := uw_7_in _ (List.mem_of_getElem? (i := 47) rfl)
theorem wc_X12_areAlike : Cond.code yX12_areAlike cX12_areAlike 5 (some .boolean) ∈ lw_good := uw_7_in _ (List.mem_of_getElem? (i := 48) rfl)
theorem km_X12_407 : Cond.methodLink RX12 407 yX12_areAlike ∈ lw_good := uw_7_in _ (List.mem_of_getElem? (i := 49) rfl)
theorem wi_X12_areAlike : Cond.instanceMethod yX12_areAlike ∈ lw_good := uw_7_in _ (List.mem_of_getElem? (i := 50) rfl)
theorem kf_X12_246 : Cond.fieldLink RX12 246 RX12 (TX12 24).2.1 (TX12 24).2.2.1 ∈ lw_good := uw_7_in _ (List.mem_of_getElem? (i := 51) rfl)
theorem wc_X12_faults : Cond.code yX12_faults cX12_faults 1 none ∈ lw_good := uw_7_in _ (List.mem_of_getElem? (i := 52) rfl)
theorem km_X12_243 : Cond.methodLink RX12 243 yX12_faults ∈ lw_good := uw_7_in _ (List.mem_of_getElem? (i := 53) rfl)
theorem wi_X12_faults : Cond.instanceMethod yX12_faults ∈ lw_good := uw_7_in _ (List.mem_of_getElem? (i := 54) rfl)
theorem wc_X12_takes0 : Cond.code yX12_takes0 cX12_takes0 3 (some .boolean) ∈ lw_good := uw_7_in _ (List.mem_of_getElem? (i := 55) rfl)
theorem km_X12_240 : Cond.methodLink RX12 240 yX12_takes0 ∈ lw_good := uw_7_in _ (List.mem_of_getElem? (i := 56) rfl)
theorem wi_X12_takes0 : Cond.instanceMethod yX12_takes0 ∈ lw_good := uw_7_in _ (List.mem_of_getElem? (i := 57) rfl)
theorem wc_X12_isThing : Cond.code yX12_isThing cX12_isThing 1 (some .boolean) ∈ lw_good := uw_7_in _ (List.mem_of_getElem? (i := 58) rfl)
theorem km_X12_134 : Cond.methodLink RX12 134 yX12_isThing ∈ lw_good := uw_7_in _ (List.mem_of_getElem? (i := 59) rfl)
def uw_8 : List Cond := [Cond.static yX12_isThing, Cond.code yX12_sign cX12_sign 1 (some .int), Cond.methodLink RX12 278 yX12_sign, Cond.static yX12_sign, Cond.code yX12_passes0 cX12_passes0 3 (some .boolean), Cond.methodLink RX12 333 yX12_passes0, Cond.instanceMethod yX12_passes0, Cond.fieldLink RX12 339 RX12 (TX12 29).2.1 (TX12 29).2.2.1, Cond.code yX12_isHouse cX12_isHouse 2 (some .boolean), Cond.methodLink RX12 191 yX12_isHouse, Cond.instanceMethod yX12_isHouse, Cond.constantLong RX12 342 (-1), Cond.code yX12_sumOf cX12_sumOf 7 (some .long), Cond.methodLink RX12 336 yX12_sumOf, Cond.instanceMethod yX12_sumOf, Cond.code yX12_isPoor cX12_isPoor 6 (some .boolean), Cond.methodLink RX12 383 yX12_isPoor, Cond.instanceMethod yX12_isPoor, Cond.code yX12_isPut cX12_isPut 3 (some .boolean), Cond.methodLink RX12 138 yX12_isPut, Cond.static yX12_isPut, Cond.code yX12_gotFor cX12_gotFor 4 (some .int), Cond.methodLink RX12 416 yX12_gotFor, Cond.instanceMethod yX12_gotFor, Cond.code yX12_termOf cX12_termOf 7 (some .long), Cond.methodLink RX12 322 yX12_termOf, Cond.instanceMethod yX12_termOf, Cond.code yX12_bounded cX12_bounded 4 (some .long), Cond.methodLink RX12 326 yX12_bounded, Cond.instanceMethod yX12_bounded, Cond.code yX12_partOf cX12_partOf 5 (some .long), Cond.methodLink RX12 330 yX12_partOf, Cond.instanceMethod yX12_partOf, Cond.code yX6_load cX6_load 5 none, Cond.methodLink RX1 33 yX6_load, Cond.instanceMethod yX6_load, Cond.selects RX6 yX6_load yX6_load, Cond.code yX8_open cX8_open 3 none, Cond.methodLink RX4 25 yX8_open, Cond.instanceMethod yX8_open, Cond.selects RX8 yX8_open yX8_open, Cond.code yX2_isOf cX2_isOf 3 (some .boolean), Cond.methodLink RX4 31 yX2_isOf, Cond.instanceMethod yX2_isOf, Cond.selects RX2 yX2_isOf yX2_isOf, Cond.fieldLink RX4 35 RX4 (TX4 3).2.1 (TX4 3).2.2.1, Cond.code yX2_begin cX2_begin 4 none, Cond.methodLink RX4 42 yX2_begin, Cond.instanceMethod yX2_begin, Cond.selects RX2 yX2_begin yX2_begin, Cond.code yX2_init cX2_init 3 none, Cond.methodLink RX4 39 yX2_init, Cond.instanceMethod yX2_init, Cond.code yX6_with cX6_with 4 (some .int), Cond.methodLink RX6 43 yX6_with, Cond.instanceMethod yX6_with, Cond.selects RX6 yX6_with yX6_with, Cond.code yX7_sum cX7_sum 4 (some .boolean), Cond.methodLink RX7 137 yX7_sum, Cond.instanceMethod yX7_sum]
theorem uw_8_in : ∀ w ∈ uw_8, w ∈ lw_good := mem_goods [1449, 1515, 1513, 1514, 1519, 1516, 1518, 1275, 1523, 1520, 1522, 1528, 1504, 1501, 1503, 1767, 1764, 1766, 1453, 1451, 1452, 1834, 1831, 1833, 1508, 1505, 1507, 1532, 1529, 1531, 1512, 1509, 1511, 544, 541, 542, 543, 532, 643, 530, 531, 647, 644, 645, 646, 295, 693, 690, 691, 692, 651, 649, 650, 560, 573, 558, 559, 883, 880, 882] rfl (by decide +kernel)
theorem wt_X12_isThing : Cond.static yX12_isThing ∈ lw_good := uw_8_in _ (List.mem_of_getElem? (i := 0) rfl)
theorem wc_X12_sign : Cond.code yX12_sign cX12_sign 1 (some .int) ∈ lw_good := uw_8_in _ (List.mem_of_getElem? (i := 1) rfl)
theorem km_X12_278 : Cond.methodLink RX12 278 yX12_sign ∈ lw_good := uw_8_in _ (List.mem_of_getElem? (i := 2) rfl)
theorem wt_X12_sign : Cond.static yX12_sign ∈ lw_good := uw_8_in _ (List.mem_of_getElem? (i := 3) rfl)
theorem wc_X12_passes0 : Cond.code yX12_passes0 cX12_passes0 3 (some .boolean) ∈ lw_good := uw_8_in _ (List.mem_of_getElem? (i := 4) rfl)
theorem km_X12_333 : Cond.methodLink RX12 333 yX12_passes0 ∈ lw_good := uw_8_in _ (List.mem_of_getElem? (i := 5) rfl)
theorem wi_X12_passes0 : Cond.instanceMethod yX12_passes0 ∈ lw_good := uw_8_in _ (List.mem_of_getElem? (i := 6) rfl)
theorem kf_X12_339 : Cond.fieldLink RX12 339 RX12 (TX12 29).2.1 (TX12 29).2.2.1 ∈ lw_good := uw_8_in _ (List.mem_of_getElem? (i := 7) rfl)
theorem wc_X12_isHouse : Cond.code yX12_isHouse cX12_isHouse 2 (some .boolean) ∈ lw_good := uw_8_in _ (List.mem_of_getElem? (i := 8) rfl)
theorem km_X12_191 : Cond.methodLink RX12 191 yX12_isHouse ∈ lw_good := uw_8_in _ (List.mem_of_getElem? (i := 9) rfl)
theorem wi_X12_isHouse : Cond.instanceMethod yX12_isHouse ∈ lw_good := uw_8_in _ (List.mem_of_getElem? (i := 10) rfl)
theorem kl_X12_342 : Cond.constantLong RX12 342 (-1) ∈ lw_good := uw_8_in _ (List.mem_of_getElem? (i := 11) rfl)
theorem wc_X12_sumOf : Cond.code yX12_sumOf cX12_sumOf 7 (some .long) ∈ lw_good := uw_8_in _ (List.mem_of_getElem? (i := 12) rfl)
theorem km_X12_336 : Cond.methodLink RX12 336 yX12_sumOf ∈ lw_good := uw_8_in _ (List.mem_of_getElem? (i := 13) rfl)
theorem wi_X12_sumOf : Cond.instanceMethod yX12_sumOf ∈ lw_good := uw_8_in _ (List.mem_of_getElem? (i := 14) rfl)
theorem wc_X12_isPoor : Cond.code yX12_isPoor cX12_isPoor 6 (some .boolean) ∈ lw_good := uw_8_in _ (List.mem_of_getElem? (i := 15) rfl)
theorem km_X12_383 : Cond.methodLink RX12 383 yX12_isPoor ∈ lw_good := uw_8_in _ (List.mem_of_getElem? (i := 16) rfl)
theorem wi_X12_isPoor : Cond.instanceMethod yX12_isPoor ∈ lw_good := uw_8_in _ (List.mem_of_getElem? (i := 17) rfl)
theorem wc_X12_isPut : Cond.code yX12_isPut cX12_isPut 3 (some .boolean) ∈ lw_good := uw_8_in _ (List.mem_of_getElem? (i := 18) rfl)
theorem km_X12_138 : Cond.methodLink RX12 138 yX12_isPut ∈ lw_good := uw_8_in _ (List.mem_of_getElem? (i := 19) rfl)
theorem wt_X12_isPut : Cond.static yX12_isPut ∈ lw_good := uw_8_in _ (List.mem_of_getElem? (i := 20) rfl)
theorem wc_X12_gotFor : Cond.code yX12_gotFor cX12_gotFor 4 (some .int) ∈ lw_good := uw_8_in _ (List.mem_of_getElem? (i := 21) rfl)
theorem km_X12_416 : Cond.methodLink RX12 416 yX12_gotFor ∈ lw_good := uw_8_in _ (List.mem_of_getElem? (i := 22) rfl)
theorem wi_X12_gotFor : Cond.instanceMethod yX12_gotFor ∈ lw_good := uw_8_in _ (List.mem_of_getElem? (i := 23) rfl)
theorem wc_X12_termOf : Cond.code yX12_termOf cX12_termOf 7 (some .long) ∈ lw_good := uw_8_in _ (List.mem_of_getElem? (i := 24) rfl)
theorem km_X12_322 : Cond.methodLink RX12 322 yX12_termOf ∈ lw_good := uw_8_in _ (List.mem_of_getElem? (i := 25) rfl)
theorem wi_X12_termOf : Cond.instanceMethod yX12_termOf ∈ lw_good := uw_8_in _ (List.mem_of_getElem? (i := 26) rfl)
theorem wc_X12_bounded : Cond.code yX12_bounded cX12_bounded 4 (some .long) ∈ lw_good := uw_8_in _ (List.mem_of_getElem? (i := 27) rfl)
theorem km_X12_326 : Cond.methodLink RX12 326 yX12_bounded ∈ lw_good := uw_8_in _ (List.mem_of_getElem? (i := 28) rfl)
theorem wi_X12_bounded : Cond.instanceMethod yX12_bounded ∈ lw_good := uw_8_in _ (List.mem_of_getElem? (i := 29) rfl)
theorem wc_X12_partOf : Cond.code yX12_partOf cX12_partOf 5 (some .long) ∈ lw_good := uw_8_in _ (List.mem_of_getElem? (i := 30) rfl)
theorem km_X12_330 : Cond.methodLink RX12 330 yX12_partOf ∈ lw_good := uw_8_in _ (List.mem_of_getElem? (i := 31) rfl)
theorem wi_X12_partOf : Cond.instanceMethod yX12_partOf ∈ lw_good := uw_8_in _ (List.mem_of_getElem? (i := 32) rfl)
theorem wc_X6_load : Cond.code yX6_load cX6_load 5 none ∈ lw_good := uw_8_in _ (List.mem_of_getElem? (i := 33) rfl)
theorem km_X1_33 : Cond.methodLink RX1 33 yX6_load ∈ lw_good := uw_8_in _ (List.mem_of_getElem? (i := 34) rfl)
theorem wi_X6_load : Cond.instanceMethod yX6_load ∈ lw_good := uw_8_in _ (List.mem_of_getElem? (i := 35) rfl)
theorem wl_X6_load : Cond.selects RX6 yX6_load yX6_load ∈ lw_good := uw_8_in _ (List.mem_of_getElem? (i := 36) rfl)
theorem wc_X8_open : Cond.code yX8_open cX8_open 3 none ∈ lw_good := uw_8_in _ (List.mem_of_getElem? (i := 37) rfl)
theorem km_X4_25 : Cond.methodLink RX4 25 yX8_open ∈ lw_good := uw_8_in _ (List.mem_of_getElem? (i := 38) rfl)
theorem wi_X8_open : Cond.instanceMethod yX8_open ∈ lw_good := uw_8_in _ (List.mem_of_getElem? (i := 39) rfl)
theorem wl_X8_open : Cond.selects RX8 yX8_open yX8_open ∈ lw_good := uw_8_in _ (List.mem_of_getElem? (i := 40) rfl)
theorem wc_X2_isOf : Cond.code yX2_isOf cX2_isOf 3 (some .boolean) ∈ lw_good := uw_8_in _ (List.mem_of_getElem? (i := 41) rfl)
theorem km_X4_31 : Cond.methodLink RX4 31 yX2_isOf ∈ lw_good := uw_8_in _ (List.mem_of_getElem? (i := 42) rfl)
theorem wi_X2_isOf : Cond.instanceMethod yX2_isOf ∈ lw_good := uw_8_in _ (List.mem_of_getElem? (i := 43) rfl)
theorem wl_X2_isOf : Cond.selects RX2 yX2_isOf yX2_isOf ∈ lw_good := uw_8_in _ (List.mem_of_getElem? (i := 44) rfl)
theorem kf_X4_35 : Cond.fieldLink RX4 35 RX4 (TX4 3).2.1 (TX4 3).2.2.1 ∈ lw_good := uw_8_in _ (List.mem_of_getElem? (i := 45) rfl)
theorem wc_X2_begin : Cond.code yX2_begin cX2_begin 4 none ∈ lw_good := uw_8_in _ (List.mem_of_getElem? (i := 46) rfl)
theorem km_X4_42 : Cond.methodLink RX4 42 yX2_begin ∈ lw_good := uw_8_in _ (List.mem_of_getElem? (i := 47) rfl)
theorem wi_X2_begin : Cond.instanceMethod yX2_begin ∈ lw_good := uw_8_in _ (List.mem_of_getElem? (i := 48) rfl)
theorem wl_X2_begin : Cond.selects RX2 yX2_begin yX2_begin ∈ lw_good := uw_8_in _ (List.mem_of_getElem? (i := 49) rfl)
theorem wc_X2_init : Cond.code yX2_init cX2_init 3 none ∈ lw_good := uw_8_in _ (List.mem_of_getElem? (i := 50) rfl)
theorem km_X4_39 : Cond.methodLink RX4 39 yX2_init ∈ lw_good := uw_8_in _ (List.mem_of_getElem? (i := 51) rfl)
theorem wi_X2_init : Cond.instanceMethod yX2_init ∈ lw_good := uw_8_in _ (List.mem_of_getElem? (i := 52) rfl)
theorem wc_X6_with : Cond.code yX6_with cX6_with 4 (some .int) ∈ lw_good := uw_8_in _ (List.mem_of_getElem? (i := 53) rfl)
theorem km_X6_43 : Cond.methodLink RX6 43 yX6_with ∈ lw_good := uw_8_in _ (List.mem_of_getElem? (i := 54) rfl)
theorem wi_X6_with : Cond.instanceMethod yX6_with ∈ lw_good := uw_8_in _ (List.mem_of_getElem? (i := 55) rfl)
theorem wl_X6_with : Cond.selects RX6 yX6_with yX6_with ∈ lw_good := uw_8_in _ (List.mem_of_getElem? (i := 56) rfl)
theorem wc_X7_sum : Cond.code yX7_sum cX7_sum 4 (some .boolean) ∈ lw_good := uw_8_in _ (List.mem_of_getElem? (i := 57) rfl)
theorem km_X7_137 : Cond.methodLink RX7 137 yX7_sum ∈ lw_good := uw_8_in _ (List.mem_of_getElem? (i := 58) rfl)
theorem wi_X7_sum : Cond.instanceMethod yX7_sum ∈ lw_good := uw_8_in _ (List.mem_of_getElem? (i := 59) rfl)
def uw_9 : List Cond := [Cond.code yX7_fail cX7_fail 1 (some .boolean), Cond.methodLink RX7 76 yX7_fail, Cond.instanceMethod yX7_fail, Cond.fieldLink RX7 54 RX7 (TX7 9).2.1 (TX7 9).2.2.1, Cond.fieldLink RX7 50 RX7 (TX7 6).2.1 (TX7 6).2.2.1, Cond.code yX9_emit cX9_emit 3 (some .int), Cond.methodLink RX7 134 yX9_emit, Cond.instanceMethod yX9_emit, Cond.selects RX9 yX9_emit yX9_emit, Cond.code yX7_lawWord cX7_lawWord 1 (some .int), Cond.methodLink RX7 170 yX7_lawWord, Cond.instanceMethod yX7_lawWord, Cond.code yX7_orderWord cX7_orderWord 4 (some .int), Cond.methodLink RX7 167 yX7_orderWord, Cond.instanceMethod yX7_orderWord, Cond.code yX7_inSquare cX7_inSquare 2 (some .boolean), Cond.methodLink RX7 164 yX7_inSquare, Cond.instanceMethod yX7_inSquare, Cond.code yX7_term cX7_term 4 (some .boolean), Cond.methodLink RX7 158 yX7_term, Cond.instanceMethod yX7_term, Cond.code yX7_opOf cX7_opOf 4 (some .int), Cond.methodLink RX7 155 yX7_opOf, Cond.instanceMethod yX7_opOf, Cond.code yX7_part cX7_part 3 (some .boolean), Cond.methodLink RX7 161 yX7_part, Cond.instanceMethod yX7_part, Cond.code yX7_wordOf cX7_wordOf 7 (some .int), Cond.methodLink RX7 89 yX7_wordOf, Cond.instanceMethod yX7_wordOf, Cond.fieldLink RX8 69 RX9 (TX9 2).2.1 (TX9 2).2.2.1, Cond.code yX9_told cX9_told 4 (some .int), Cond.methodLink RX8 72 yX9_told, Cond.instanceMethod yX9_told, Cond.selects RX9 yX9_told yX9_told, Cond.fieldLink RX8 76 RX9 (TX9 1).2.1 (TX9 1).2.2.1, Cond.code yX3_run cX3_run 9 (some .long), Cond.methodLink RX8 79 yX3_run, Cond.instanceMethod yX3_run, Cond.selects RX3 yX3_run yX3_run, Cond.constantLong RX8 83 (-9223372036854775808), Cond.constantLong RX8 85 99, Cond.code Lib.MathLoose.min_long.x Lib.MathLoose.min_long.code 4 (some .long), Cond.methodLink RX8 87 Lib.MathLoose.min_long.x, Cond.static Lib.MathLoose.min_long.x, Cond.code Lib.MathLoose.max_long.x Lib.MathLoose.max_long.code 4 (some .long), Cond.methodLink RX8 93 Lib.MathLoose.max_long.x, Cond.static Lib.MathLoose.max_long.x, Cond.code yX10_add cX10_add 4 (some .int), Cond.methodLink RX11 125 yX10_add, Cond.instanceMethod yX10_add, Cond.selects RX10 yX10_add yX10_add, Cond.code yX11_settle cX11_settle 2 (some .int), Cond.methodLink RX11 129 yX11_settle, Cond.instanceMethod yX11_settle, Cond.methodLink RX11 179 yX7_byteAt, Cond.code yX7_dishAt cX7_dishAt 5 (some .int), Cond.methodLink RX11 182 yX7_dishAt, Cond.instanceMethod yX7_dishAt, Cond.selects RX7 yX7_dishAt yX7_dishAt]
theorem uw_9_in : ∀ w ∈ uw_9, w ∈ lw_good := mem_goods [862, 859, 861, 155, 152, 899, 896, 897, 898, 908, 905, 907, 903, 900, 902, 895, 892, 894, 887, 884, 886, 912, 909, 911, 891, 888, 890, 804, 801, 803, 125, 590, 587, 588, 589, 122, 594, 591, 592, 593, 604, 605, 608, 606, 607, 611, 609, 610, 507, 504, 505, 506, 517, 514, 516, 763, 770, 767, 768, 769] rfl (by decide +kernel)
theorem wc_X7_fail : Cond.code yX7_fail cX7_fail 1 (some .boolean) ∈ lw_good := uw_9_in _ (List.mem_of_getElem? (i := 0) rfl)
theorem km_X7_76 : Cond.methodLink RX7 76 yX7_fail ∈ lw_good := uw_9_in _ (List.mem_of_getElem? (i := 1) rfl)
theorem wi_X7_fail : Cond.instanceMethod yX7_fail ∈ lw_good := uw_9_in _ (List.mem_of_getElem? (i := 2) rfl)
theorem kf_X7_54 : Cond.fieldLink RX7 54 RX7 (TX7 9).2.1 (TX7 9).2.2.1 ∈ lw_good := uw_9_in _ (List.mem_of_getElem? (i := 3) rfl)
theorem kf_X7_50 : Cond.fieldLink RX7 50 RX7 (TX7 6).2.1 (TX7 6).2.2.1 ∈ lw_good := uw_9_in _ (List.mem_of_getElem? (i := 4) rfl)
theorem wc_X9_emit : Cond.code yX9_emit cX9_emit 3 (some .int) ∈ lw_good := uw_9_in _ (List.mem_of_getElem? (i := 5) rfl)
theorem km_X7_134 : Cond.methodLink RX7 134 yX9_emit ∈ lw_good := uw_9_in _ (List.mem_of_getElem? (i := 6) rfl)
theorem wi_X9_emit : Cond.instanceMethod yX9_emit ∈ lw_good := uw_9_in _ (List.mem_of_getElem? (i := 7) rfl)
theorem wl_X9_emit : Cond.selects RX9 yX9_emit yX9_emit ∈ lw_good := uw_9_in _ (List.mem_of_getElem? (i := 8) rfl)
theorem wc_X7_lawWord : Cond.code yX7_lawWord cX7_lawWord 1 (some .int) ∈ lw_good := uw_9_in _ (List.mem_of_getElem? (i := 9) rfl)
theorem km_X7_170 : Cond.methodLink RX7 170 yX7_lawWord ∈ lw_good := uw_9_in _ (List.mem_of_getElem? (i := 10) rfl)
theorem wi_X7_lawWord : Cond.instanceMethod yX7_lawWord ∈ lw_good := uw_9_in _ (List.mem_of_getElem? (i := 11) rfl)
theorem wc_X7_orderWord : Cond.code yX7_orderWord cX7_orderWord 4 (some .int) ∈ lw_good := uw_9_in _ (List.mem_of_getElem? (i := 12) rfl)
theorem km_X7_167 : Cond.methodLink RX7 167 yX7_orderWord ∈ lw_good := uw_9_in _ (List.mem_of_getElem? (i := 13) rfl)
theorem wi_X7_orderWord : Cond.instanceMethod yX7_orderWord ∈ lw_good := uw_9_in _ (List.mem_of_getElem? (i := 14) rfl)
theorem wc_X7_inSquare : Cond.code yX7_inSquare cX7_inSquare 2 (some .boolean) ∈ lw_good := uw_9_in _ (List.mem_of_getElem? (i := 15) rfl)
theorem km_X7_164 : Cond.methodLink RX7 164 yX7_inSquare ∈ lw_good := uw_9_in _ (List.mem_of_getElem? (i := 16) rfl)
theorem wi_X7_inSquare : Cond.instanceMethod yX7_inSquare ∈ lw_good := uw_9_in _ (List.mem_of_getElem? (i := 17) rfl)
theorem wc_X7_term : Cond.code yX7_term cX7_term 4 (some .boolean) ∈ lw_good := uw_9_in _ (List.mem_of_getElem? (i := 18) rfl)
theorem km_X7_158 : Cond.methodLink RX7 158 yX7_term ∈ lw_good := uw_9_in _ (List.mem_of_getElem? (i := 19) rfl)
theorem wi_X7_term : Cond.instanceMethod yX7_term ∈ lw_good := uw_9_in _ (List.mem_of_getElem? (i := 20) rfl)
theorem wc_X7_opOf : Cond.code yX7_opOf cX7_opOf 4 (some .int) ∈ lw_good := uw_9_in _ (List.mem_of_getElem? (i := 21) rfl)
theorem km_X7_155 : Cond.methodLink RX7 155 yX7_opOf ∈ lw_good := uw_9_in _ (List.mem_of_getElem? (i := 22) rfl)
theorem wi_X7_opOf : Cond.instanceMethod yX7_opOf ∈ lw_good := uw_9_in _ (List.mem_of_getElem? (i := 23) rfl)
theorem wc_X7_part : Cond.code yX7_part cX7_part 3 (some .boolean) ∈ lw_good := uw_9_in _ (List.mem_of_getElem? (i := 24) rfl)
theorem km_X7_161 : Cond.methodLink RX7 161 yX7_part ∈ lw_good := uw_9_in _ (List.mem_of_getElem? (i := 25) rfl)
theorem wi_X7_part : Cond.instanceMethod yX7_part ∈ lw_good := uw_9_in _ (List.mem_of_getElem? (i := 26) rfl)
theorem wc_X7_wordOf : Cond.code yX7_wordOf cX7_wordOf 7 (some .int) ∈ lw_good := uw_9_in _ (List.mem_of_getElem? (i := 27) rfl)
theorem km_X7_89 : Cond.methodLink RX7 89 yX7_wordOf ∈ lw_good := uw_9_in _ (List.mem_of_getElem? (i := 28) rfl)
theorem wi_X7_wordOf : Cond.instanceMethod yX7_wordOf ∈ lw_good := uw_9_in _ (List.mem_of_getElem? (i := 29) rfl)
theorem kf_X8_69 : Cond.fieldLink RX8 69 RX9 (TX9 2).2.1 (TX9 2).2.2.1 ∈ lw_good := uw_9_in _ (List.mem_of_getElem? (i := 30) rfl)
theorem wc_X9_told : Cond.code yX9_told cX9_told 4 (some .int) ∈ lw_good := uw_9_in _ (List.mem_of_getElem? (i := 31) rfl)
theorem km_X8_72 : Cond.methodLink RX8 72 yX9_told ∈ lw_good := uw_9_in _ (List.mem_of_getElem? (i := 32) rfl)
theorem wi_X9_told : Cond.instanceMethod yX9_told ∈ lw_good := uw_9_in _ (List.mem_of_getElem? (i := 33) rfl)
theorem wl_X9_told : Cond.selects RX9 yX9_told yX9_told ∈ lw_good := uw_9_in _ (List.mem_of_getElem? (i := 34) rfl)
theorem kf_X8_76 : Cond.fieldLink RX8 76 RX9 (TX9 1).2.1 (TX9 1).2.2.1 ∈ lw_good := uw_9_in _ (List.mem_of_getElem? (i := 35) rfl)
theorem wc_X3_run : Cond.code yX3_run cX3_run 9 (some .long) ∈ lw_good := uw_9_in _ (List.mem_of_getElem? (i := 36) rfl)
theorem km_X8_79 : Cond.methodLink RX8 79 yX3_run ∈ lw_good := uw_9_in _ (List.mem_of_getElem? (i := 37) rfl)
theorem wi_X3_run : Cond.instanceMethod yX3_run ∈ lw_good := uw_9_in _ (List.mem_of_getElem? (i := 38) rfl)
theorem wl_X3_run : Cond.selects RX3 yX3_run yX3_run ∈ lw_good := uw_9_in _ (List.mem_of_getElem? (i := 39) rfl)
theorem kl_X8_83 : Cond.constantLong RX8 83 (-9223372036854775808) ∈ lw_good := uw_9_in _ (List.mem_of_getElem? (i := 40) rfl)
theorem kl_X8_85 : Cond.constantLong RX8 85 99 ∈ lw_good := uw_9_in _ (List.mem_of_getElem? (i := 41) rfl)
theorem wc_lmin : Cond.code Lib.MathLoose.min_long.x Lib.MathLoose.min_long.code 4 (some .long) ∈ lw_good := uw_9_in _ (List.mem_of_getElem? (i := 42) rfl)
theorem km_X8_87 : Cond.methodLink RX8 87 Lib.MathLoose.min_long.x ∈ lw_good := uw_9_in _ (List.mem_of_getElem? (i := 43) rfl)
theorem wt_J9_min_f86c9 : Cond.static Lib.MathLoose.min_long.x ∈ lw_good := uw_9_in _ (List.mem_of_getElem? (i := 44) rfl)
theorem wc_lmax : Cond.code Lib.MathLoose.max_long.x Lib.MathLoose.max_long.code 4 (some .long) ∈ lw_good := uw_9_in _ (List.mem_of_getElem? (i := 45) rfl)
theorem km_X8_93 : Cond.methodLink RX8 93 Lib.MathLoose.max_long.x ∈ lw_good := uw_9_in _ (List.mem_of_getElem? (i := 46) rfl)
theorem wt_J9_max_f86c9 : Cond.static Lib.MathLoose.max_long.x ∈ lw_good := uw_9_in _ (List.mem_of_getElem? (i := 47) rfl)
theorem wc_X10_add : Cond.code yX10_add cX10_add 4 (some .int) ∈ lw_good := uw_9_in _ (List.mem_of_getElem? (i := 48) rfl)
theorem km_X11_125 : Cond.methodLink RX11 125 yX10_add ∈ lw_good := uw_9_in _ (List.mem_of_getElem? (i := 49) rfl)
theorem wi_X10_add : Cond.instanceMethod yX10_add ∈ lw_good := uw_9_in _ (List.mem_of_getElem? (i := 50) rfl)
theorem wl_X10_add : Cond.selects RX10 yX10_add yX10_add ∈ lw_good := uw_9_in _ (List.mem_of_getElem? (i := 51) rfl)
theorem wc_X11_settle : Cond.code yX11_settle cX11_settle 2 (some .int) ∈ lw_good := uw_9_in _ (List.mem_of_getElem? (i := 52) rfl)
theorem km_X11_129 : Cond.methodLink RX11 129 yX11_settle ∈ lw_good := uw_9_in _ (List.mem_of_getElem? (i := 53) rfl)
theorem wi_X11_settle : Cond.instanceMethod yX11_settle ∈ lw_good := uw_9_in _ (List.mem_of_getElem? (i := 54) rfl)
theorem km_X11_179 : Cond.methodLink RX11 179 yX7_byteAt ∈ lw_good := uw_9_in _ (List.mem_of_getElem? (i := 55) rfl)
theorem wc_X7_dishAt : Cond.code yX7_dishAt cX7_dishAt 5 (some .int) ∈ lw_good := uw_9_in _ (List.mem_of_getElem? (i := 56) rfl)
theorem km_X11_182 : Cond.methodLink RX11 182 yX7_dishAt ∈ lw_good := uw_9_in _ (List.mem_of_getElem? (i := 57) rfl)
theorem wi_X7_dishAt : Cond.instanceMethod yX7_dishAt ∈ lw_good := uw_9_in _ (List.mem_of_getElem? (i := 58) rfl)
theorem wl_X7_dishAt : Cond.selects RX7 yX7_dishAt yX7_dishAt ∈ lw_good := uw_9_in _ (List.mem_of_getElem? (i := 59) rfl)
def uw_10 : List Cond := [Cond.code yX12_plainOf cX12_plainOf 3 (some .boolean), Cond.methodLink RX12 348 yX12_plainOf, Cond.instanceMethod yX12_plainOf, Cond.code yX12_whyNot cX12_whyNot 4 (some .int), Cond.methodLink RX12 197 yX12_whyNot, Cond.instanceMethod yX12_whyNot, Cond.code yX12_positiveOf cX12_positiveOf 7 (some .boolean), Cond.methodLink RX12 351 yX12_positiveOf, Cond.instanceMethod yX12_positiveOf, Cond.code yX12_testOf cX12_testOf 4 (some .boolean), Cond.methodLink RX12 354 yX12_testOf, Cond.instanceMethod yX12_testOf, Cond.code yX12_leaf cX12_leaf 1 none, Cond.methodLink RX12 291 yX12_leaf, Cond.instanceMethod yX12_leaf, Cond.code yX12_mustNumber cX12_mustNumber 3 none, Cond.methodLink RX12 262 yX12_mustNumber, Cond.instanceMethod yX12_mustNumber, Cond.code yX12_isValue cX12_isValue 2 (some .boolean), Cond.methodLink RX12 288 yX12_isValue, Cond.instanceMethod yX12_isValue, Cond.code yX12_readSum cX12_readSum 2 none, Cond.methodLink RX12 253 yX12_readSum, Cond.instanceMethod yX12_readSum, Cond.code yX12_must cX12_must 2 none, Cond.methodLink RX12 256 yX12_must, Cond.instanceMethod yX12_must, Cond.code yX12_readTerm cX12_readTerm 2 none, Cond.methodLink RX12 282 yX12_readTerm, Cond.instanceMethod yX12_readTerm, Cond.code yX12_readPart cX12_readPart 3 none, Cond.methodLink RX12 285 yX12_readPart, Cond.instanceMethod yX12_readPart, Cond.code yX12_areHouses cX12_areHouses 2 (some .boolean), Cond.methodLink RX12 387 yX12_areHouses, Cond.instanceMethod yX12_areHouses, Cond.code yX12_groups cX12_groups 7 (some .int), Cond.methodLink RX12 410 yX12_groups, Cond.instanceMethod yX12_groups, Cond.code yX12_ones cX12_ones 3 (some .int), Cond.methodLink RX12 396 yX12_ones, Cond.static yX12_ones, Cond.code yX12_bothOf cX12_bothOf 4 (some .boolean), Cond.methodLink RX12 344 yX12_bothOf, Cond.instanceMethod yX12_bothOf, Cond.code yX7_kindAt cX7_kindAt 3 (some .int), Cond.methodLink RX7 82 yX7_kindAt, Cond.instanceMethod yX7_kindAt, Cond.code yX7_tokenOf cX7_tokenOf 6 (some .int), Cond.methodLink RX7 85 yX7_tokenOf, Cond.instanceMethod yX7_tokenOf, Cond.fieldLink RX8 56 RX3 (TX3 0).2.1 (TX3 0).2.2.1, Cond.code yX8_askLaw cX8_askLaw 6 (some .int), Cond.methodLink RX8 65 yX8_askLaw, Cond.instanceMethod yX8_askLaw, Cond.code yX12_readPlain cX12_readPlain 4 none, Cond.methodLink RX12 275 yX12_readPlain, Cond.instanceMethod yX12_readPlain, Cond.code yX12_readTest cX12_readTest 2 none, Cond.methodLink RX12 259 yX12_readTest]
theorem uw_10_in : ∀ w ∈ uw_10, w ∈ lw_good := mem_goods [1546, 1543, 1545, 1571, 1568, 1570, 1550, 1547, 1549, 1538, 1535, 1537, 1677, 1674, 1676, 1681, 1678, 1680, 1673, 1670, 1672, 1653, 1650, 1652, 1669, 1666, 1668, 1657, 1654, 1656, 1661, 1658, 1660, 1775, 1772, 1774, 1814, 1811, 1813, 1789, 1787, 1788, 1542, 1539, 1541, 796, 793, 795, 800, 797, 799, 184, 586, 583, 585, 1693, 1690, 1692, 1685, 1682] rfl (by decide +kernel)
theorem wc_X12_plainOf : Cond.code yX12_plainOf cX12_plainOf 3 (some .boolean) ∈ lw_good := uw_10_in _ (List.mem_of_getElem? (i := 0) rfl)
theorem km_X12_348 : Cond.methodLink RX12 348 yX12_plainOf ∈ lw_good := uw_10_in _ (List.mem_of_getElem? (i := 1) rfl)
theorem wi_X12_plainOf : Cond.instanceMethod yX12_plainOf ∈ lw_good := uw_10_in _ (List.mem_of_getElem? (i := 2) rfl)
theorem wc_X12_whyNot : Cond.code yX12_whyNot cX12_whyNot 4 (some .int) ∈ lw_good := uw_10_in _ (List.mem_of_getElem? (i := 3) rfl)
theorem km_X12_197 : Cond.methodLink RX12 197 yX12_whyNot ∈ lw_good := uw_10_in _ (List.mem_of_getElem? (i := 4) rfl)
theorem wi_X12_whyNot : Cond.instanceMethod yX12_whyNot ∈ lw_good := uw_10_in _ (List.mem_of_getElem? (i := 5) rfl)
theorem wc_X12_positiveOf : Cond.code yX12_positiveOf cX12_positiveOf 7 (some .boolean) ∈ lw_good := uw_10_in _ (List.mem_of_getElem? (i := 6) rfl)
theorem km_X12_351 : Cond.methodLink RX12 351 yX12_positiveOf ∈ lw_good := uw_10_in _ (List.mem_of_getElem? (i := 7) rfl)
theorem wi_X12_positiveOf : Cond.instanceMethod yX12_positiveOf ∈ lw_good := uw_10_in _ (List.mem_of_getElem? (i := 8) rfl)
theorem wc_X12_testOf : Cond.code yX12_testOf cX12_testOf 4 (some .boolean) ∈ lw_good := uw_10_in _ (List.mem_of_getElem? (i := 9) rfl)
theorem km_X12_354 : Cond.methodLink RX12 354 yX12_testOf ∈ lw_good := uw_10_in _ (List.mem_of_getElem? (i := 10) rfl)
theorem wi_X12_testOf : Cond.instanceMethod yX12_testOf ∈ lw_good := uw_10_in _ (List.mem_of_getElem? (i := 11) rfl)
theorem wc_X12_leaf : Cond.code yX12_leaf cX12_leaf 1 none ∈ lw_good := uw_10_in _ (List.mem_of_getElem? (i := 12) rfl)
theorem km_X12_291 : Cond.methodLink RX12 291 yX12_leaf ∈ lw_good := uw_10_in _ (List.mem_of_getElem? (i := 13) rfl)
theorem wi_X12_leaf : Cond.instanceMethod yX12_leaf ∈ lw_good := uw_10_in _ (List.mem_of_getElem? (i := 14) rfl)
theorem wc_X12_mustNumber : Cond.code yX12_mustNumber cX12_mustNumber 3 none ∈ lw_good := uw_10_in _ (List.mem_of_getElem? (i := 15) rfl)
theorem km_X12_262 : Cond.methodLink RX12 262 yX12_mustNumber ∈ lw_good := uw_10_in _ (List.mem_of_getElem? (i := 16) rfl)
theorem wi_X12_mustNumber : Cond.instanceMethod yX12_mustNumber ∈ lw_good := uw_10_in _ (List.mem_of_getElem? (i := 17) rfl)
theorem wc_X12_isValue : Cond.code yX12_isValue cX12_isValue 2 (some .boolean) ∈ lw_good := uw_10_in _ (List.mem_of_getElem? (i := 18) rfl)
theorem km_X12_288 : Cond.methodLink RX12 288 yX12_isValue ∈ lw_good := uw_10_in _ (List.mem_of_getElem? (i := 19) rfl)
theorem wi_X12_isValue : Cond.instanceMethod yX12_isValue ∈ lw_good := uw_10_in _ (List.mem_of_getElem? (i := 20) rfl)
theorem wc_X12_readSum : Cond.code yX12_readSum cX12_readSum 2 none ∈ lw_good := uw_10_in _ (List.mem_of_getElem? (i := 21) rfl)
theorem km_X12_253 : Cond.methodLink RX12 253 yX12_readSum ∈ lw_good := uw_10_in _ (List.mem_of_getElem? (i := 22) rfl)
theorem wi_X12_readSum : Cond.instanceMethod yX12_readSum ∈ lw_good := uw_10_in _ (List.mem_of_getElem? (i := 23) rfl)
theorem wc_X12_must : Cond.code yX12_must cX12_must 2 none ∈ lw_good := uw_10_in _ (List.mem_of_getElem? (i := 24) rfl)
theorem km_X12_256 : Cond.methodLink RX12 256 yX12_must ∈ lw_good := uw_10_in _ (List.mem_of_getElem? (i := 25) rfl)
theorem wi_X12_must : Cond.instanceMethod yX12_must ∈ lw_good := uw_10_in _ (List.mem_of_getElem? (i := 26) rfl)
theorem wc_X12_readTerm : Cond.code yX12_readTerm cX12_readTerm 2 none ∈ lw_good := uw_10_in _ (List.mem_of_getElem? (i := 27) rfl)
theorem km_X12_282 : Cond.methodLink RX12 282 yX12_readTerm ∈ lw_good := uw_10_in _ (List.mem_of_getElem? (i := 28) rfl)
theorem wi_X12_readTerm : Cond.instanceMethod yX12_readTerm ∈ lw_good := uw_10_in _ (List.mem_of_getElem? (i := 29) rfl)
theorem wc_X12_readPart : Cond.code yX12_readPart cX12_readPart 3 none ∈ lw_good := uw_10_in _ (List.mem_of_getElem? (i := 30) rfl)
theorem km_X12_285 : Cond.methodLink RX12 285 yX12_readPart ∈ lw_good := uw_10_in _ (List.mem_of_getElem? (i := 31) rfl)
theorem wi_X12_readPart : Cond.instanceMethod yX12_readPart ∈ lw_good := uw_10_in _ (List.mem_of_getElem? (i := 32) rfl)
theorem wc_X12_areHouses : Cond.code yX12_areHouses cX12_areHouses 2 (some .boolean) ∈ lw_good := uw_10_in _ (List.mem_of_getElem? (i := 33) rfl)
theorem km_X12_387 : Cond.methodLink RX12 387 yX12_areHouses ∈ lw_good := uw_10_in _ (List.mem_of_getElem? (i := 34) rfl)
theorem wi_X12_areHouses : Cond.instanceMethod yX12_areHouses ∈ lw_good := uw_10_in _ (List.mem_of_getElem? (i := 35) rfl)
theorem wc_X12_groups : Cond.code yX12_groups cX12_groups 7 (some .int) ∈ lw_good := uw_10_in _ (List.mem_of_getElem? (i := 36) rfl)
theorem km_X12_410 : Cond.methodLink RX12 410 yX12_groups ∈ lw_good := uw_10_in _ (List.mem_of_getElem? (i := 37) rfl)
theorem wi_X12_groups : Cond.instanceMethod yX12_groups ∈ lw_good := uw_10_in _ (List.mem_of_getElem? (i := 38) rfl)
theorem wc_X12_ones : Cond.code yX12_ones cX12_ones 3 (some .int) ∈ lw_good := uw_10_in _ (List.mem_of_getElem? (i := 39) rfl)
theorem km_X12_396 : Cond.methodLink RX12 396 yX12_ones ∈ lw_good := uw_10_in _ (List.mem_of_getElem? (i := 40) rfl)
theorem wt_X12_ones : Cond.static yX12_ones ∈ lw_good := uw_10_in _ (List.mem_of_getElem? (i := 41) rfl)
theorem wc_X12_bothOf : Cond.code yX12_bothOf cX12_bothOf 4 (some .boolean) ∈ lw_good := uw_10_in _ (List.mem_of_getElem? (i := 42) rfl)
theorem km_X12_344 : Cond.methodLink RX12 344 yX12_bothOf ∈ lw_good := uw_10_in _ (List.mem_of_getElem? (i := 43) rfl)
theorem wi_X12_bothOf : Cond.instanceMethod yX12_bothOf ∈ lw_good := uw_10_in _ (List.mem_of_getElem? (i := 44) rfl)
theorem wc_X7_kindAt : Cond.code yX7_kindAt cX7_kindAt 3 (some .int) ∈ lw_good := uw_10_in _ (List.mem_of_getElem? (i := 45) rfl)
theorem km_X7_82 : Cond.methodLink RX7 82 yX7_kindAt ∈ lw_good := uw_10_in _ (List.mem_of_getElem? (i := 46) rfl)
theorem wi_X7_kindAt : Cond.instanceMethod yX7_kindAt ∈ lw_good := uw_10_in _ (List.mem_of_getElem? (i := 47) rfl)
theorem wc_X7_tokenOf : Cond.code yX7_tokenOf cX7_tokenOf 6 (some .int) ∈ lw_good := uw_10_in _ (List.mem_of_getElem? (i := 48) rfl)
theorem km_X7_85 : Cond.methodLink RX7 85 yX7_tokenOf ∈ lw_good := uw_10_in _ (List.mem_of_getElem? (i := 49) rfl)
theorem wi_X7_tokenOf : Cond.instanceMethod yX7_tokenOf ∈ lw_good := uw_10_in _ (List.mem_of_getElem? (i := 50) rfl)
theorem kf_X8_56 : Cond.fieldLink RX8 56 RX3 (TX3 0).2.1 (TX3 0).2.2.1 ∈ lw_good := uw_10_in _ (List.mem_of_getElem? (i := 51) rfl)
theorem wc_X8_askLaw : Cond.code yX8_askLaw cX8_askLaw 6 (some .int) ∈ lw_good := uw_10_in _ (List.mem_of_getElem? (i := 52) rfl)
theorem km_X8_65 : Cond.methodLink RX8 65 yX8_askLaw ∈ lw_good := uw_10_in _ (List.mem_of_getElem? (i := 53) rfl)
theorem wi_X8_askLaw : Cond.instanceMethod yX8_askLaw ∈ lw_good := uw_10_in _ (List.mem_of_getElem? (i := 54) rfl)
theorem wc_X12_readPlain : Cond.code yX12_readPlain cX12_readPlain 4 none ∈ lw_good := uw_10_in _ (List.mem_of_getElem? (i := 55) rfl)
theorem km_X12_275 : Cond.methodLink RX12 275 yX12_readPlain ∈ lw_good := uw_10_in _ (List.mem_of_getElem? (i := 56) rfl)
theorem wi_X12_readPlain : Cond.instanceMethod yX12_readPlain ∈ lw_good := uw_10_in _ (List.mem_of_getElem? (i := 57) rfl)
theorem wc_X12_readTest : Cond.code yX12_readTest cX12_readTest 2 none ∈ lw_good := uw_10_in _ (List.mem_of_getElem? (i := 58) rfl)
theorem km_X12_259 : Cond.methodLink RX12 259 yX12_readTest ∈ lw_good := uw_10_in _ (List.mem_of_getElem? (i := 59) rfl)
def uw_11 : List Cond := [Cond.instanceMethod yX12_readTest, Cond.code yX12_readBoth cX12_readBoth 2 none, Cond.methodLink RX12 272 yX12_readBoth, Cond.instanceMethod yX12_readBoth, Cond.fieldLink RX1 66 RX6 (TX6 2).2.1 (TX6 2).2.2.1, Cond.fieldLink RX1 70 RX6 (TX6 1).2.1 (TX6 1).2.2.1, Cond.code yX8_weightOf cX8_weightOf 8 (some .int), Cond.methodLink RX1 73 yX8_weightOf, Cond.instanceMethod yX8_weightOf, Cond.selects RX8 yX8_weightOf yX8_weightOf, Cond.fieldLink RX1 79 RX1 (TX1 7).2.1 (TX1 7).2.2.1, Cond.fieldLink RX1 60 RX6 (TX6 0).2.1 (TX6 0).2.2.1, Cond.code yX6_without cX6_without 3 (some .int), Cond.methodLink RX1 37 yX6_without, Cond.instanceMethod yX6_without, Cond.selects RX6 yX6_without yX6_without, Cond.methodLink RX1 41 yX6_with, Cond.code yX6_swapped cX6_swapped 3 (some .int), Cond.methodLink RX1 45 yX6_swapped, Cond.instanceMethod yX6_swapped, Cond.selects RX6 yX6_swapped yX6_swapped, Cond.code yX6_doubled cX6_doubled 2 (some .int), Cond.methodLink RX1 48 yX6_doubled, Cond.instanceMethod yX6_doubled, Cond.selects RX6 yX6_doubled yX6_doubled, Cond.methodLink RX1 51 yX6_hasPlace, Cond.code yX6_replaced cX6_replaced 3 (some .int), Cond.methodLink RX1 63 yX6_replaced, Cond.instanceMethod yX6_replaced, Cond.selects RX6 yX6_replaced yX6_replaced, Cond.methodLink RX2 97 yX8_weightOf, Cond.code yX11_isChange cX11_isChange 3 (some .boolean), Cond.methodLink RX11 230 yX11_isChange, Cond.static yX11_isChange, Cond.methodLink RX11 233 yX8_open, Cond.code yX1_take cX1_take 2 none, Cond.methodLink RX11 236 yX1_take, Cond.instanceMethod yX1_take, Cond.selects RX1 yX1_take yX1_take, Cond.code yX1_makes cX1_makes 6 (some .int), Cond.methodLink RX11 239 yX1_makes, Cond.instanceMethod yX1_makes, Cond.selects RX1 yX1_makes yX1_makes, Cond.fieldLink RX11 242 RX1 (TX1 7).2.1 (TX1 7).2.2.1, Cond.fieldLink RX1 85 RX1 (TX1 6).2.1 (TX1 6).2.2.1, Cond.methodLink RX1 88 yX1_makes, Cond.methodLink RX2 66 yX6_lengthOf, Cond.code yX8_isFree cX8_isFree 1 (some .boolean), Cond.methodLink RX2 72 yX8_isFree, Cond.instanceMethod yX8_isFree, Cond.selects RX8 yX8_isFree yX8_isFree, Cond.code yX2_undoInAndDouble cX2_undoInAndDouble 12 none, Cond.methodLink RX2 81 yX2_undoInAndDouble, Cond.instanceMethod yX2_undoInAndDouble, Cond.code yX2_undoSwap cX2_undoSwap 10 none, Cond.methodLink RX2 85 yX2_undoSwap, Cond.instanceMethod yX2_undoSwap, Cond.code yX2_undoStand cX2_undoStand 10 none, Cond.methodLink RX2 91 yX2_undoStand, Cond.instanceMethod yX2_undoStand]
theorem uw_11_in : ∀ w ∈ uw_11, w ∈ lw_good := mem_goods [1684, 1689, 1686, 1688, 239, 238, 582, 579, 580, 581, 265, 236, 552, 549, 550, 551, 557, 568, 565, 566, 567, 572, 569, 570, 571, 574, 578, 575, 576, 577, 716, 528, 526, 527, 529, 540, 537, 538, 539, 548, 545, 546, 547, 266, 263, 1018, 705, 709, 706, 707, 708, 714, 711, 713, 720, 717, 719, 728, 725, 727] rfl (by decide +kernel)
theorem wi_X12_readTest : Cond.instanceMethod yX12_readTest ∈ lw_good := uw_11_in _ (List.mem_of_getElem? (i := 0) rfl)
theorem wc_X12_readBoth : Cond.code yX12_readBoth cX12_readBoth 2 none ∈ lw_good := uw_11_in _ (List.mem_of_getElem? (i := 1) rfl)
theorem km_X12_272 : Cond.methodLink RX12 272 yX12_readBoth ∈ lw_good := uw_11_in _ (List.mem_of_getElem? (i := 2) rfl)
theorem wi_X12_readBoth : Cond.instanceMethod yX12_readBoth ∈ lw_good := uw_11_in _ (List.mem_of_getElem? (i := 3) rfl)
theorem kf_X1_66 : Cond.fieldLink RX1 66 RX6 (TX6 2).2.1 (TX6 2).2.2.1 ∈ lw_good := uw_11_in _ (List.mem_of_getElem? (i := 4) rfl)
theorem kf_X1_70 : Cond.fieldLink RX1 70 RX6 (TX6 1).2.1 (TX6 1).2.2.1 ∈ lw_good := uw_11_in _ (List.mem_of_getElem? (i := 5) rfl)
theorem wc_X8_weightOf : Cond.code yX8_weightOf cX8_weightOf 8 (some .int) ∈ lw_good := uw_11_in _ (List.mem_of_getElem? (i := 6) rfl)
theorem km_X1_73 : Cond.methodLink RX1 73 yX8_weightOf ∈ lw_good := uw_11_in _ (List.mem_of_getElem? (i := 7) rfl)
theorem wi_X8_weightOf : Cond.instanceMethod yX8_weightOf ∈ lw_good := uw_11_in _ (List.mem_of_getElem? (i := 8) rfl)
theorem wl_X8_weightOf : Cond.selects RX8 yX8_weightOf yX8_weightOf ∈ lw_good := uw_11_in _ (List.mem_of_getElem? (i := 9) rfl)
theorem kf_X1_79 : Cond.fieldLink RX1 79 RX1 (TX1 7).2.1 (TX1 7).2.2.1 ∈ lw_good := uw_11_in _ (List.mem_of_getElem? (i := 10) rfl)
theorem kf_X1_60 : Cond.fieldLink RX1 60 RX6 (TX6 0).2.1 (TX6 0).2.2.1 ∈ lw_good := uw_11_in _ (List.mem_of_getElem? (i := 11) rfl)
theorem wc_X6_without : Cond.code yX6_without cX6_without 3 (some .int) ∈ lw_good := uw_11_in _ (List.mem_of_getElem? (i := 12) rfl)
theorem km_X1_37 : Cond.methodLink RX1 37 yX6_without ∈ lw_good := uw_11_in _ (List.mem_of_getElem? (i := 13) rfl)
theorem wi_X6_without : Cond.instanceMethod yX6_without ∈ lw_good := uw_11_in _ (List.mem_of_getElem? (i := 14) rfl)
theorem wl_X6_without : Cond.selects RX6 yX6_without yX6_without ∈ lw_good := uw_11_in _ (List.mem_of_getElem? (i := 15) rfl)
theorem km_X1_41 : Cond.methodLink RX1 41 yX6_with ∈ lw_good := uw_11_in _ (List.mem_of_getElem? (i := 16) rfl)
theorem wc_X6_swapped : Cond.code yX6_swapped cX6_swapped 3 (some .int) ∈ lw_good := uw_11_in _ (List.mem_of_getElem? (i := 17) rfl)
theorem km_X1_45 : Cond.methodLink RX1 45 yX6_swapped ∈ lw_good := uw_11_in _ (List.mem_of_getElem? (i := 18) rfl)
theorem wi_X6_swapped : Cond.instanceMethod yX6_swapped ∈ lw_good := uw_11_in _ (List.mem_of_getElem? (i := 19) rfl)
theorem wl_X6_swapped : Cond.selects RX6 yX6_swapped yX6_swapped ∈ lw_good := uw_11_in _ (List.mem_of_getElem? (i := 20) rfl)
theorem wc_X6_doubled : Cond.code yX6_doubled cX6_doubled 2 (some .int) ∈ lw_good := uw_11_in _ (List.mem_of_getElem? (i := 21) rfl)
theorem km_X1_48 : Cond.methodLink RX1 48 yX6_doubled ∈ lw_good := uw_11_in _ (List.mem_of_getElem? (i := 22) rfl)
theorem wi_X6_doubled : Cond.instanceMethod yX6_doubled ∈ lw_good := uw_11_in _ (List.mem_of_getElem? (i := 23) rfl)
theorem wl_X6_doubled : Cond.selects RX6 yX6_doubled yX6_doubled ∈ lw_good := uw_11_in _ (List.mem_of_getElem? (i := 24) rfl)
theorem km_X1_51 : Cond.methodLink RX1 51 yX6_hasPlace ∈ lw_good := uw_11_in _ (List.mem_of_getElem? (i := 25) rfl)
theorem wc_X6_replaced : Cond.code yX6_replaced cX6_replaced 3 (some .int) ∈ lw_good := uw_11_in _ (List.mem_of_getElem? (i := 26) rfl)
theorem km_X1_63 : Cond.methodLink RX1 63 yX6_replaced ∈ lw_good := uw_11_in _ (List.mem_of_getElem? (i := 27) rfl)
theorem wi_X6_replaced : Cond.instanceMethod yX6_replaced ∈ lw_good := uw_11_in _ (List.mem_of_getElem? (i := 28) rfl)
theorem wl_X6_replaced : Cond.selects RX6 yX6_replaced yX6_replaced ∈ lw_good := uw_11_in _ (List.mem_of_getElem? (i := 29) rfl)
theorem km_X2_97 : Cond.methodLink RX2 97 yX8_weightOf ∈ lw_good := uw_11_in _ (List.mem_of_getElem? (i := 30) rfl)
theorem wc_X11_isChange : Cond.code yX11_isChange cX11_isChange 3 (some .boolean) ∈ lw_good := uw_11_in _ (List.mem_of_getElem? (i := 31) rfl)
theorem km_X11_230 : Cond.methodLink RX11 230 yX11_isChange ∈ lw_good := uw_11_in _ (List.mem_of_getElem? (i := 32) rfl)
theorem wt_X11_isChange : Cond.static yX11_isChange ∈ lw_good := uw_11_in _ (List.mem_of_getElem? (i := 33) rfl)
theorem km_X11_233 : Cond.methodLink RX11 233 yX8_open ∈ lw_good := uw_11_in _ (List.mem_of_getElem? (i := 34) rfl)
theorem wc_X1_take : Cond.code yX1_take cX1_take 2 none ∈ lw_good := uw_11_in _ (List.mem_of_getElem? (i := 35) rfl)
theorem km_X11_236 : Cond.methodLink RX11 236 yX1_take ∈ lw_good := uw_11_in _ (List.mem_of_getElem? (i := 36) rfl)
theorem wi_X1_take : Cond.instanceMethod yX1_take ∈ lw_good := uw_11_in _ (List.mem_of_getElem? (i := 37) rfl)
theorem wl_X1_take : Cond.selects RX1 yX1_take yX1_take ∈ lw_good := uw_11_in _ (List.mem_of_getElem? (i := 38) rfl)
theorem wc_X1_makes : Cond.code yX1_makes cX1_makes 6 (some .int) ∈ lw_good := uw_11_in _ (List.mem_of_getElem? (i := 39) rfl)
theorem km_X11_239 : Cond.methodLink RX11 239 yX1_makes ∈ lw_good := uw_11_in _ (List.mem_of_getElem? (i := 40) rfl)
theorem wi_X1_makes : Cond.instanceMethod yX1_makes ∈ lw_good := uw_11_in _ (List.mem_of_getElem? (i := 41) rfl)
theorem wl_X1_makes : Cond.selects RX1 yX1_makes yX1_makes ∈ lw_good := uw_11_in _ (List.mem_of_getElem? (i := 42) rfl)
theorem kf_X11_242 : Cond.fieldLink RX11 242 RX1 (TX1 7).2.1 (TX1 7).2.2.1 ∈ lw_good := uw_11_in _ (List.mem_of_getElem? (i := 43) rfl)
theorem kf_X1_85 : Cond.fieldLink RX1 85 RX1 (TX1 6).2.1 (TX1 6).2.2.1 ∈ lw_good := uw_11_in _ (List.mem_of_getElem? (i := 44) rfl)
theorem km_X1_88 : Cond.methodLink RX1 88 yX1_makes ∈ lw_good := uw_11_in _ (List.mem_of_getElem? (i := 45) rfl)
theorem km_X2_66 : Cond.methodLink RX2 66 yX6_lengthOf ∈ lw_good := uw_11_in _ (List.mem_of_getElem? (i := 46) rfl)
theorem wc_X8_isFree : Cond.code yX8_isFree cX8_isFree 1 (some .boolean) ∈ lw_good := uw_11_in _ (List.mem_of_getElem? (i := 47) rfl)
theorem km_X2_72 : Cond.methodLink RX2 72 yX8_isFree ∈ lw_good := uw_11_in _ (List.mem_of_getElem? (i := 48) rfl)
theorem wi_X8_isFree : Cond.instanceMethod yX8_isFree ∈ lw_good := uw_11_in _ (List.mem_of_getElem? (i := 49) rfl)
theorem wl_X8_isFree : Cond.selects RX8 yX8_isFree yX8_isFree ∈ lw_good := uw_11_in _ (List.mem_of_getElem? (i := 50) rfl)
theorem wc_X2_undoInAndDouble : Cond.code yX2_undoInAndDouble cX2_undoInAndDouble 12 none ∈ lw_good := uw_11_in _ (List.mem_of_getElem? (i := 51) rfl)
theorem km_X2_81 : Cond.methodLink RX2 81 yX2_undoInAndDouble ∈ lw_good := uw_11_in _ (List.mem_of_getElem? (i := 52) rfl)
theorem wi_X2_undoInAndDouble : Cond.instanceMethod yX2_undoInAndDouble ∈ lw_good := uw_11_in _ (List.mem_of_getElem? (i := 53) rfl)
theorem wc_X2_undoSwap : Cond.code yX2_undoSwap cX2_undoSwap 10 none ∈ lw_good := uw_11_in _ (List.mem_of_getElem? (i := 54) rfl)
theorem km_X2_85 : Cond.methodLink RX2 85 yX2_undoSwap ∈ lw_good := uw_11_in _ (List.mem_of_getElem? (i := 55) rfl)
theorem wi_X2_undoSwap : Cond.instanceMethod yX2_undoSwap ∈ lw_good := uw_11_in _ (List.mem_of_getElem? (i := 56) rfl)
theorem wc_X2_undoStand : Cond.code yX2_undoStand cX2_undoStand 10 none ∈ lw_good := uw_11_in _ (List.mem_of_getElem? (i := 57) rfl)
theorem km_X2_91 : Cond.methodLink RX2 91 yX2_undoStand ∈ lw_good := uw_11_in _ (List.mem_of_getElem? (i := 58) rfl)
theorem wi_X2_undoStand : Cond.instanceMethod yX2_undoStand ∈ lw_good := uw_11_in _ (List.mem_of_getElem? (i := 59) rfl)
def uw_12 : List Cond := [Cond.code yX2_undoOut cX2_undoOut 10 none, Cond.methodLink RX2 88 yX2_undoOut, Cond.instanceMethod yX2_undoOut, Cond.methodLink RX2 78 yX6_tasteOf, Cond.fieldLink RX0 34 RX0 (TX0 5).2.1 (TX0 5).2.2.1, Cond.fieldLink RX0 37 RX0 (TX0 7).2.1 (TX0 7).2.2.1, Cond.fieldLink RX0 43 RX0 (TX0 8).2.1 (TX0 8).2.2.1, Cond.methodLink RX0 47 yX8_open, Cond.code yJ7_fill_d0a16 cJ7_fill_d0a16 5 none, Cond.methodLink RX0 53 yJ7_fill_d0a16, Cond.static yJ7_fill_d0a16, Cond.constantLong RX0 59 1000000000000, Cond.code yX1_listAll cX1_listAll 6 none, Cond.methodLink RX0 61 yX1_listAll, Cond.instanceMethod yX1_listAll, Cond.selects RX1 yX1_listAll yX1_listAll, Cond.code yX0_handOn cX0_handOn 3 none, Cond.methodLink RX0 66 yX0_handOn, Cond.instanceMethod yX0_handOn, Cond.code yX4_tableTo cX4_tableTo 5 (some (.object "DishLines$Distances")), Cond.methodLink RX11 252 yX4_tableTo, Cond.instanceMethod yX4_tableTo, Cond.selects RX4 yX4_tableTo yX4_tableTo, Cond.code yX2_spread cX2_spread 8 none, Cond.methodLink RX11 260 yX2_spread, Cond.instanceMethod yX2_spread, Cond.selects RX2 yX2_spread yX2_spread, Cond.methodLink RX11 245 yX1_listAll, Cond.code yX1_lowestMade cX1_lowestMade 7 (some .int), Cond.methodLink RX11 256 yX1_lowestMade, Cond.instanceMethod yX1_lowestMade, Cond.selects RX1 yX1_lowestMade yX1_lowestMade, Cond.fieldLink RX11 248 RX1 (TX1 5).2.1 (TX1 5).2.2.1, Cond.code yX11_giveBirth cX11_giveBirth 6 (some .int), Cond.methodLink RX11 132 yX11_giveBirth, Cond.instanceMethod yX11_giveBirth, Cond.fieldLink RX11 249 RX1 (TX1 3).2.1 (TX1 3).2.2.1, Cond.code yX1_hasMade cX1_hasMade 3 (some .boolean), Cond.methodLink RX11 368 yX1_hasMade, Cond.instanceMethod yX1_hasMade, Cond.selects RX1 yX1_hasMade yX1_hasMade, Cond.constant RX11 346 1000000, Cond.methodLink RX11 350 Lib.Math.min.name, Cond.fieldLink RX11 355 RX1 (TX1 6).2.1 (TX1 6).2.2.1, Cond.constant RX11 358 1000003, Cond.code yX1_madeBy cX1_madeBy 4 (some .int), Cond.methodLink RX11 359 yX1_madeBy, Cond.instanceMethod yX1_madeBy, Cond.selects RX1 yX1_madeBy yX1_madeBy, Cond.methodLink RX11 217 yX9_told, Cond.fieldLink RX11 383 RX9 (TX9 1).2.1 (TX9 1).2.2.1, Cond.methodLink RX11 386 yX3_run, Cond.constantLong RX11 390 (-9223372036854775808), Cond.code yX11_turnYear cX11_turnYear 2 (some .int), Cond.methodLink RX11 392 yX11_turnYear, Cond.instanceMethod yX11_turnYear, Cond.fieldLink RX4 57 RX4 (TX4 5).2.1 (TX4 5).2.2.1, Cond.fieldLink RX4 60 RX4 (TX4 6).2.1 (TX4 6).2.2.1, Cond.methodLink RX4 70 yJ7_fill_53178, Cond.methodLink RX4 46 yX4_tableTo]
theorem uw_12_in : ∀ w ∈ uw_12, w ∈ lw_good := mem_goods [724, 721, 723, 710, 383, 385, 386, 1155, 1158, 1156, 1157, 1159, 1017, 1160, 1015, 1016, 1164, 1161, 1163, 642, 1027, 640, 641, 704, 1036, 702, 703, 1014, 1031, 1028, 1029, 1030, 261, 525, 522, 524, 256, 1048, 1045, 1046, 1047, 1206, 1207, 264, 1208, 1212, 1209, 1210, 1211, 983, 123, 988, 989, 993, 990, 992, 297, 298, 1074, 639] rfl (by decide +kernel)
theorem wc_X2_undoOut : Cond.code yX2_undoOut cX2_undoOut 10 none ∈ lw_good := uw_12_in _ (List.mem_of_getElem? (i := 0) rfl)
theorem km_X2_88 : Cond.methodLink RX2 88 yX2_undoOut ∈ lw_good := uw_12_in _ (List.mem_of_getElem? (i := 1) rfl)
theorem wi_X2_undoOut : Cond.instanceMethod yX2_undoOut ∈ lw_good := uw_12_in _ (List.mem_of_getElem? (i := 2) rfl)
theorem km_X2_78 : Cond.methodLink RX2 78 yX6_tasteOf ∈ lw_good := uw_12_in _ (List.mem_of_getElem? (i := 3) rfl)
theorem kf_X0_34 : Cond.fieldLink RX0 34 RX0 (TX0 5).2.1 (TX0 5).2.2.1 ∈ lw_good := uw_12_in _ (List.mem_of_getElem? (i := 4) rfl)
theorem kf_X0_37 : Cond.fieldLink RX0 37 RX0 (TX0 7).2.1 (TX0 7).2.2.1 ∈ lw_good := uw_12_in _ (List.mem_of_getElem? (i := 5) rfl)
theorem kf_X0_43 : Cond.fieldLink RX0 43 RX0 (TX0 8).2.1 (TX0 8).2.2.1 ∈ lw_good := uw_12_in _ (List.mem_of_getElem? (i := 6) rfl)
theorem km_X0_47 : Cond.methodLink RX0 47 yX8_open ∈ lw_good := uw_12_in _ (List.mem_of_getElem? (i := 7) rfl)
theorem wc_J7_fill_d0a16 : Cond.code yJ7_fill_d0a16 cJ7_fill_d0a16 5 none ∈ lw_good := uw_12_in _ (List.mem_of_getElem? (i := 8) rfl)
theorem km_X0_53 : Cond.methodLink RX0 53 yJ7_fill_d0a16 ∈ lw_good := uw_12_in _ (List.mem_of_getElem? (i := 9) rfl)
theorem wt_J7_fill_d0a16 : Cond.static yJ7_fill_d0a16 ∈ lw_good := uw_12_in _ (List.mem_of_getElem? (i := 10) rfl)
theorem kl_X0_59 : Cond.constantLong RX0 59 1000000000000 ∈ lw_good := uw_12_in _ (List.mem_of_getElem? (i := 11) rfl)
theorem wc_X1_listAll : Cond.code yX1_listAll cX1_listAll 6 none ∈ lw_good := uw_12_in _ (List.mem_of_getElem? (i := 12) rfl)
theorem km_X0_61 : Cond.methodLink RX0 61 yX1_listAll ∈ lw_good := uw_12_in _ (List.mem_of_getElem? (i := 13) rfl)
theorem wi_X1_listAll : Cond.instanceMethod yX1_listAll ∈ lw_good := uw_12_in _ (List.mem_of_getElem? (i := 14) rfl)
theorem wl_X1_listAll : Cond.selects RX1 yX1_listAll yX1_listAll ∈ lw_good := uw_12_in _ (List.mem_of_getElem? (i := 15) rfl)
theorem wc_X0_handOn : Cond.code yX0_handOn cX0_handOn 3 none ∈ lw_good := uw_12_in _ (List.mem_of_getElem? (i := 16) rfl)
theorem km_X0_66 : Cond.methodLink RX0 66 yX0_handOn ∈ lw_good := uw_12_in _ (List.mem_of_getElem? (i := 17) rfl)
theorem wi_X0_handOn : Cond.instanceMethod yX0_handOn ∈ lw_good := uw_12_in _ (List.mem_of_getElem? (i := 18) rfl)
theorem wc_X4_tableTo : Cond.code yX4_tableTo cX4_tableTo 5 (some (.object "DishLines$Distances")) ∈ lw_good := uw_12_in _ (List.mem_of_getElem? (i := 19) rfl)
theorem km_X11_252 : Cond.methodLink RX11 252 yX4_tableTo ∈ lw_good := uw_12_in _ (List.mem_of_getElem? (i := 20) rfl)
theorem wi_X4_tableTo : Cond.instanceMethod yX4_tableTo ∈ lw_good := uw_12_in _ (List.mem_of_getElem? (i := 21) rfl)
theorem wl_X4_tableTo : Cond.selects RX4 yX4_tableTo yX4_tableTo ∈ lw_good := uw_12_in _ (List.mem_of_getElem? (i := 22) rfl)
theorem wc_X2_spread : Cond.code yX2_spread cX2_spread 8 none ∈ lw_good := uw_12_in _ (List.mem_of_getElem? (i := 23) rfl)
theorem km_X11_260 : Cond.methodLink RX11 260 yX2_spread ∈ lw_good := uw_12_in _ (List.mem_of_getElem? (i := 24) rfl)
theorem wi_X2_spread : Cond.instanceMethod yX2_spread ∈ lw_good := uw_12_in _ (List.mem_of_getElem? (i := 25) rfl)
theorem wl_X2_spread : Cond.selects RX2 yX2_spread yX2_spread ∈ lw_good := uw_12_in _ (List.mem_of_getElem? (i := 26) rfl)
theorem km_X11_245 : Cond.methodLink RX11 245 yX1_listAll ∈ lw_good := uw_12_in _ (List.mem_of_getElem? (i := 27) rfl)
theorem wc_X1_lowestMade : Cond.code yX1_lowestMade cX1_lowestMade 7 (some .int) ∈ lw_good := uw_12_in _ (List.mem_of_getElem? (i := 28) rfl)
theorem km_X11_256 : Cond.methodLink RX11 256 yX1_lowestMade ∈ lw_good := uw_12_in _ (List.mem_of_getElem? (i := 29) rfl)
theorem wi_X1_lowestMade : Cond.instanceMethod yX1_lowestMade ∈ lw_good := uw_12_in _ (List.mem_of_getElem? (i := 30) rfl)
theorem wl_X1_lowestMade : Cond.selects RX1 yX1_lowestMade yX1_lowestMade ∈ lw_good := uw_12_in _ (List.mem_of_getElem? (i := 31) rfl)
theorem kf_X11_248 : Cond.fieldLink RX11 248 RX1 (TX1 5).2.1 (TX1 5).2.2.1 ∈ lw_good := uw_12_in _ (List.mem_of_getElem? (i := 32) rfl)
theorem wc_X11_giveBirth : Cond.code yX11_giveBirth cX11_giveBirth 6 (some .int) ∈ lw_good := uw_12_in _ (List.mem_of_getElem? (i := 33) rfl)
theorem km_X11_132 : Cond.methodLink RX11 132 yX11_giveBirth ∈ lw_good := uw_12_in _ (List.mem_of_getElem? (i := 34) rfl)
theorem wi_X11_giveBirth : Cond.instanceMethod yX11_giveBirth ∈ lw_good := uw_12_in _ (List.mem_of_getElem? (i := 35) rfl)
theorem kf_X11_249 : Cond.fieldLink RX11 249 RX1 (TX1 3).2.1 (TX1 3).2.2.1 ∈ lw_good := uw_12_in _ (List.mem_of_getElem? (i := 36) rfl)
theorem wc_X1_hasMade : Cond.code yX1_hasMade cX1_hasMade 3 (some .boolean) ∈ lw_good := uw_12_in _ (List.mem_of_getElem? (i := 37) rfl)
theorem km_X11_368 : Cond.methodLink RX11 368 yX1_hasMade ∈ lw_good := uw_12_in _ (List.mem_of_getElem? (i := 38) rfl)
theorem wi_X1_hasMade : Cond.instanceMethod yX1_hasMade ∈ lw_good := uw_12_in _ (List.mem_of_getElem? (i := 39) rfl)
theorem wl_X1_hasMade : Cond.selects RX1 yX1_hasMade yX1_hasMade ∈ lw_good := uw_12_in _ (List.mem_of_getElem? (i := 40) rfl)
theorem ki_X11_346 : Cond.constant RX11 346 1000000 ∈ lw_good := uw_12_in _ (List.mem_of_getElem? (i := 41) rfl)
theorem km_X11_350 : Cond.methodLink RX11 350 Lib.Math.min.name ∈ lw_good := uw_12_in _ (List.mem_of_getElem? (i := 42) rfl)
theorem kf_X11_355 : Cond.fieldLink RX11 355 RX1 (TX1 6).2.1 (TX1 6).2.2.1 ∈ lw_good := uw_12_in _ (List.mem_of_getElem? (i := 43) rfl)
theorem ki_X11_358 : Cond.constant RX11 358 1000003 ∈ lw_good := uw_12_in _ (List.mem_of_getElem? (i := 44) rfl)
theorem wc_X1_madeBy : Cond.code yX1_madeBy cX1_madeBy 4 (some .int) ∈ lw_good := uw_12_in _ (List.mem_of_getElem? (i := 45) rfl)
theorem km_X11_359 : Cond.methodLink RX11 359 yX1_madeBy ∈ lw_good := uw_12_in _ (List.mem_of_getElem? (i := 46) rfl)
theorem wi_X1_madeBy : Cond.instanceMethod yX1_madeBy ∈ lw_good := uw_12_in _ (List.mem_of_getElem? (i := 47) rfl)
theorem wl_X1_madeBy : Cond.selects RX1 yX1_madeBy yX1_madeBy ∈ lw_good := uw_12_in _ (List.mem_of_getElem? (i := 48) rfl)
theorem km_X11_217 : Cond.methodLink RX11 217 yX9_told ∈ lw_good := uw_12_in _ (List.mem_of_getElem? (i := 49) rfl)
theorem kf_X11_383 : Cond.fieldLink RX11 383 RX9 (TX9 1).2.1 (TX9 1).2.2.1 ∈ lw_good := uw_12_in _ (List.mem_of_getElem? (i := 50) rfl)
theorem km_X11_386 : Cond.methodLink RX11 386 yX3_run ∈ lw_good := uw_12_in _ (List.mem_of_getElem? (i := 51) rfl)
theorem kl_X11_390 : Cond.constantLong RX11 390 (-9223372036854775808) ∈ lw_good := uw_12_in _ (List.mem_of_getElem? (i := 52) rfl)
theorem wc_X11_turnYear : Cond.code yX11_turnYear cX11_turnYear 2 (some .int) ∈ lw_good := uw_12_in _ (List.mem_of_getElem? (i := 53) rfl)
theorem km_X11_392 : Cond.methodLink RX11 392 yX11_turnYear ∈ lw_good := uw_12_in _ (List.mem_of_getElem? (i := 54) rfl)
theorem wi_X11_turnYear : Cond.instanceMethod yX11_turnYear ∈ lw_good := uw_12_in _ (List.mem_of_getElem? (i := 55) rfl)
theorem kf_X4_57 : Cond.fieldLink RX4 57 RX4 (TX4 5).2.1 (TX4 5).2.2.1 ∈ lw_good := uw_12_in _ (List.mem_of_getElem? (i := 56) rfl)
theorem kf_X4_60 : Cond.fieldLink RX4 60 RX4 (TX4 6).2.1 (TX4 6).2.2.1 ∈ lw_good := uw_12_in _ (List.mem_of_getElem? (i := 57) rfl)
theorem km_X4_70 : Cond.methodLink RX4 70 yJ7_fill_53178 ∈ lw_good := uw_12_in _ (List.mem_of_getElem? (i := 58) rfl)
theorem km_X4_46 : Cond.methodLink RX4 46 yX4_tableTo ∈ lw_good := uw_12_in _ (List.mem_of_getElem? (i := 59) rfl)
def uw_13 : List Cond := [Cond.methodLink RX4 50 yX2_spread, Cond.fieldLink RX4 53 RX2 (TX2 2).2.1 (TX2 2).2.2.1, Cond.code yX4_addFrom cX4_addFrom 3 none, Cond.methodLink RX4 85 yX4_addFrom, Cond.instanceMethod yX4_addFrom, Cond.code yX4_findLeast cX4_findLeast 3 none, Cond.methodLink RX4 89 yX4_findLeast, Cond.instanceMethod yX4_findLeast, Cond.code yX10_daughtersOf cX10_daughtersOf 4 (some .int), Cond.methodLink RX11 152 yX10_daughtersOf, Cond.instanceMethod yX10_daughtersOf, Cond.selects RX10 yX10_daughtersOf yX10_daughtersOf, Cond.code yX4_stepsFrom cX4_stepsFrom 5 (some .int), Cond.methodLink RX11 155 yX4_stepsFrom, Cond.instanceMethod yX4_stepsFrom, Cond.selects RX4 yX4_stepsFrom yX4_stepsFrom, Cond.code yX10_changedBack cX10_changedBack 4 (some .int), Cond.methodLink RX11 158 yX10_changedBack, Cond.instanceMethod yX10_changedBack, Cond.selects RX10 yX10_changedBack yX10_changedBack, Cond.code yX4_seekFirst cX4_seekFirst 4 none, Cond.methodLink RX11 279 yX4_seekFirst, Cond.instanceMethod yX4_seekFirst, Cond.selects RX4 yX4_seekFirst yX4_seekFirst, Cond.fieldLink RX11 282 RX4 (TX4 7).2.1 (TX4 7).2.2.1, Cond.fieldLink RX11 285 RX4 (TX4 8).2.1 (TX4 8).2.2.1, Cond.fieldLink RX11 288 RX4 (TX4 9).2.1 (TX4 9).2.2.1, Cond.code yX11_keepsCustom cX11_keepsCustom 3 (some .boolean), Cond.methodLink RX11 266 yX11_keepsCustom, Cond.instanceMethod yX11_keepsCustom, Cond.code yX0_work cX0_work 5 (some .boolean), Cond.methodLink RX11 321 yX0_work, Cond.instanceMethod yX0_work, Cond.selects RX0 yX0_work yX0_work, Cond.code yX0_likeliest cX0_likeliest 3 (some .int), Cond.methodLink RX11 330 yX0_likeliest, Cond.instanceMethod yX0_likeliest, Cond.selects RX0 yX0_likeliest yX0_likeliest, Cond.constantLong RX11 324 (-1), Cond.fieldLink RX11 326 RX0 (TX0 3).2.1 (TX0 3).2.2.1, Cond.code yX5_workFewest cX5_workFewest 4 none, Cond.methodLink RX5 51 yX5_workFewest, Cond.instanceMethod yX5_workFewest, Cond.code yX5_workFloor cX5_workFloor 4 none, Cond.methodLink RX5 54 yX5_workFloor, Cond.instanceMethod yX5_workFloor, Cond.code yX5_isOf cX5_isOf 3 (some .boolean), Cond.methodLink RX11 299 yX5_isOf, Cond.instanceMethod yX5_isOf, Cond.selects RX5 yX5_isOf yX5_isOf, Cond.fieldLink RX11 314 RX5 (TX5 11).2.1 (TX5 11).2.2.1, Cond.code yX5_bestMother cX5_bestMother 2 (some .int), Cond.methodLink RX11 318 yX5_bestMother, Cond.instanceMethod yX5_bestMother, Cond.selects RX5 yX5_bestMother yX5_bestMother, Cond.fieldLink RX11 317 RX5 (TX5 10).2.1 (TX5 10).2.2.1, Cond.code yX5_take cX5_take 4 none, Cond.methodLink RX11 302 yX5_take, Cond.instanceMethod yX5_take, Cond.selects RX5 yX5_take yX5_take]
theorem uw_13_in : ∀ w ∈ uw_13, w ∈ lw_good := mem_goods [701, 656, 1078, 1075, 1077, 1082, 1079, 1081, 634, 631, 632, 633, 638, 635, 636, 637, 732, 729, 730, 731, 1073, 1070, 1071, 1072, 300, 302, 304, 1044, 1041, 1043, 1154, 1151, 1152, 1153, 1173, 1170, 1171, 1172, 1165, 381, 1117, 1114, 1116, 1127, 1124, 1126, 1096, 1093, 1094, 1095, 345, 1145, 1142, 1143, 1144, 343, 1100, 1097, 1098, 1099] rfl (by decide +kernel)
theorem km_X4_50 : Cond.methodLink RX4 50 yX2_spread ∈ lw_good := uw_13_in _ (List.mem_of_getElem? (i := 0) rfl)
theorem kf_X4_53 : Cond.fieldLink RX4 53 RX2 (TX2 2).2.1 (TX2 2).2.2.1 ∈ lw_good := uw_13_in _ (List.mem_of_getElem? (i := 1) rfl)
theorem wc_X4_addFrom : Cond.code yX4_addFrom cX4_addFrom 3 none ∈ lw_good := uw_13_in _ (List.mem_of_getElem? (i := 2) rfl)
theorem km_X4_85 : Cond.methodLink RX4 85 yX4_addFrom ∈ lw_good := uw_13_in _ (List.mem_of_getElem? (i := 3) rfl)
theorem wi_X4_addFrom : Cond.instanceMethod yX4_addFrom ∈ lw_good := uw_13_in _ (List.mem_of_getElem? (i := 4) rfl)
theorem wc_X4_findLeast : Cond.code yX4_findLeast cX4_findLeast 3 none ∈ lw_good := uw_13_in _ (List.mem_of_getElem? (i := 5) rfl)
theorem km_X4_89 : Cond.methodLink RX4 89 yX4_findLeast ∈ lw_good := uw_13_in _ (List.mem_of_getElem? (i := 6) rfl)
theorem wi_X4_findLeast : Cond.instanceMethod yX4_findLeast ∈ lw_good := uw_13_in _ (List.mem_of_getElem? (i := 7) rfl)
theorem wc_X10_daughtersOf : Cond.code yX10_daughtersOf cX10_daughtersOf 4 (some .int) ∈ lw_good := uw_13_in _ (List.mem_of_getElem? (i := 8) rfl)
theorem km_X11_152 : Cond.methodLink RX11 152 yX10_daughtersOf ∈ lw_good := uw_13_in _ (List.mem_of_getElem? (i := 9) rfl)
theorem wi_X10_daughtersOf : Cond.instanceMethod yX10_daughtersOf ∈ lw_good := uw_13_in _ (List.mem_of_getElem? (i := 10) rfl)
theorem wl_X10_daughtersOf : Cond.selects RX10 yX10_daughtersOf yX10_daughtersOf ∈ lw_good := uw_13_in _ (List.mem_of_getElem? (i := 11) rfl)
theorem wc_X4_stepsFrom : Cond.code yX4_stepsFrom cX4_stepsFrom 5 (some .int) ∈ lw_good := uw_13_in _ (List.mem_of_getElem? (i := 12) rfl)
theorem km_X11_155 : Cond.methodLink RX11 155 yX4_stepsFrom ∈ lw_good := uw_13_in _ (List.mem_of_getElem? (i := 13) rfl)
theorem wi_X4_stepsFrom : Cond.instanceMethod yX4_stepsFrom ∈ lw_good := uw_13_in _ (List.mem_of_getElem? (i := 14) rfl)
theorem wl_X4_stepsFrom : Cond.selects RX4 yX4_stepsFrom yX4_stepsFrom ∈ lw_good := uw_13_in _ (List.mem_of_getElem? (i := 15) rfl)
theorem wc_X10_changedBack : Cond.code yX10_changedBack cX10_changedBack 4 (some .int) ∈ lw_good := uw_13_in _ (List.mem_of_getElem? (i := 16) rfl)
theorem km_X11_158 : Cond.methodLink RX11 158 yX10_changedBack ∈ lw_good := uw_13_in _ (List.mem_of_getElem? (i := 17) rfl)
theorem wi_X10_changedBack : Cond.instanceMethod yX10_changedBack ∈ lw_good := uw_13_in _ (List.mem_of_getElem? (i := 18) rfl)
theorem wl_X10_changedBack : Cond.selects RX10 yX10_changedBack yX10_changedBack ∈ lw_good := uw_13_in _ (List.mem_of_getElem? (i := 19) rfl)
theorem wc_X4_seekFirst : Cond.code yX4_seekFirst cX4_seekFirst 4 none ∈ lw_good := uw_13_in _ (List.mem_of_getElem? (i := 20) rfl)
theorem km_X11_279 : Cond.methodLink RX11 279 yX4_seekFirst ∈ lw_good := uw_13_in _ (List.mem_of_getElem? (i := 21) rfl)
theorem wi_X4_seekFirst : Cond.instanceMethod yX4_seekFirst ∈ lw_good := uw_13_in _ (List.mem_of_getElem? (i := 22) rfl)
theorem wl_X4_seekFirst : Cond.selects RX4 yX4_seekFirst yX4_seekFirst ∈ lw_good := uw_13_in _ (List.mem_of_getElem? (i := 23) rfl)
theorem kf_X11_282 : Cond.fieldLink RX11 282 RX4 (TX4 7).2.1 (TX4 7).2.2.1 ∈ lw_good := uw_13_in _ (List.mem_of_getElem? (i := 24) rfl)
theorem kf_X11_285 : Cond.fieldLink RX11 285 RX4 (TX4 8).2.1 (TX4 8).2.2.1 ∈ lw_good := uw_13_in _ (List.mem_of_getElem? (i := 25) rfl)
theorem kf_X11_288 : Cond.fieldLink RX11 288 RX4 (TX4 9).2.1 (TX4 9).2.2.1 ∈ lw_good := uw_13_in _ (List.mem_of_getElem? (i := 26) rfl)
theorem wc_X11_keepsCustom : Cond.code yX11_keepsCustom cX11_keepsCustom 3 (some .boolean) ∈ lw_good := uw_13_in _ (List.mem_of_getElem? (i := 27) rfl)
theorem km_X11_266 : Cond.methodLink RX11 266 yX11_keepsCustom ∈ lw_good := uw_13_in _ (List.mem_of_getElem? (i := 28) rfl)
theorem wi_X11_keepsCustom : Cond.instanceMethod yX11_keepsCustom ∈ lw_good := uw_13_in _ (List.mem_of_getElem? (i := 29) rfl)
theorem wc_X0_work : Cond.code yX0_work cX0_work 5 (some .boolean) ∈ lw_good := uw_13_in _ (List.mem_of_getElem? (i := 30) rfl)
theorem km_X11_321 : Cond.methodLink RX11 321 yX0_work ∈ lw_good := uw_13_in _ (List.mem_of_getElem? (i := 31) rfl)
theorem wi_X0_work : Cond.instanceMethod yX0_work ∈ lw_good := uw_13_in _ (List.mem_of_getElem? (i := 32) rfl)
theorem wl_X0_work : Cond.selects RX0 yX0_work yX0_work ∈ lw_good := uw_13_in _ (List.mem_of_getElem? (i := 33) rfl)
theorem wc_X0_likeliest : Cond.code yX0_likeliest cX0_likeliest 3 (some .int) ∈ lw_good := uw_13_in _ (List.mem_of_getElem? (i := 34) rfl)
theorem km_X11_330 : Cond.methodLink RX11 330 yX0_likeliest ∈ lw_good := uw_13_in _ (List.mem_of_getElem? (i := 35) rfl)
theorem wi_X0_likeliest : Cond.instanceMethod yX0_likeliest ∈ lw_good := uw_13_in _ (List.mem_of_getElem? (i := 36) rfl)
theorem wl_X0_likeliest : Cond.selects RX0 yX0_likeliest yX0_likeliest ∈ lw_good := uw_13_in _ (List.mem_of_getElem? (i := 37) rfl)
theorem kl_X11_324 : Cond.constantLong RX11 324 (-1) ∈ lw_good := uw_13_in _ (List.mem_of_getElem? (i := 38) rfl)
theorem kf_X11_326 : Cond.fieldLink RX11 326 RX0 (TX0 3).2.1 (TX0 3).2.2.1 ∈ lw_good := uw_13_in _ (List.mem_of_getElem? (i := 39) rfl)
theorem wc_X5_workFewest : Cond.code yX5_workFewest cX5_workFewest 4 none ∈ lw_good := uw_13_in _ (List.mem_of_getElem? (i := 40) rfl)
theorem km_X5_51 : Cond.methodLink RX5 51 yX5_workFewest ∈ lw_good := uw_13_in _ (List.mem_of_getElem? (i := 41) rfl)
theorem wi_X5_workFewest : Cond.instanceMethod yX5_workFewest ∈ lw_good := uw_13_in _ (List.mem_of_getElem? (i := 42) rfl)
theorem wc_X5_workFloor : Cond.code yX5_workFloor cX5_workFloor 4 none ∈ lw_good := uw_13_in _ (List.mem_of_getElem? (i := 43) rfl)
theorem km_X5_54 : Cond.methodLink RX5 54 yX5_workFloor ∈ lw_good := uw_13_in _ (List.mem_of_getElem? (i := 44) rfl)
theorem wi_X5_workFloor : Cond.instanceMethod yX5_workFloor ∈ lw_good := uw_13_in _ (List.mem_of_getElem? (i := 45) rfl)
theorem wc_X5_isOf : Cond.code yX5_isOf cX5_isOf 3 (some .boolean) ∈ lw_good := uw_13_in _ (List.mem_of_getElem? (i := 46) rfl)
theorem km_X11_299 : Cond.methodLink RX11 299 yX5_isOf ∈ lw_good := uw_13_in _ (List.mem_of_getElem? (i := 47) rfl)
theorem wi_X5_isOf : Cond.instanceMethod yX5_isOf ∈ lw_good := uw_13_in _ (List.mem_of_getElem? (i := 48) rfl)
theorem wl_X5_isOf : Cond.selects RX5 yX5_isOf yX5_isOf ∈ lw_good := uw_13_in _ (List.mem_of_getElem? (i := 49) rfl)
theorem kf_X11_314 : Cond.fieldLink RX11 314 RX5 (TX5 11).2.1 (TX5 11).2.2.1 ∈ lw_good := uw_13_in _ (List.mem_of_getElem? (i := 50) rfl)
theorem wc_X5_bestMother : Cond.code yX5_bestMother cX5_bestMother 2 (some .int) ∈ lw_good := uw_13_in _ (List.mem_of_getElem? (i := 51) rfl)
theorem km_X11_318 : Cond.methodLink RX11 318 yX5_bestMother ∈ lw_good := uw_13_in _ (List.mem_of_getElem? (i := 52) rfl)
theorem wi_X5_bestMother : Cond.instanceMethod yX5_bestMother ∈ lw_good := uw_13_in _ (List.mem_of_getElem? (i := 53) rfl)
theorem wl_X5_bestMother : Cond.selects RX5 yX5_bestMother yX5_bestMother ∈ lw_good := uw_13_in _ (List.mem_of_getElem? (i := 54) rfl)
theorem kf_X11_317 : Cond.fieldLink RX11 317 RX5 (TX5 10).2.1 (TX5 10).2.2.1 ∈ lw_good := uw_13_in _ (List.mem_of_getElem? (i := 55) rfl)
theorem wc_X5_take : Cond.code yX5_take cX5_take 4 none ∈ lw_good := uw_13_in _ (List.mem_of_getElem? (i := 56) rfl)
theorem km_X11_302 : Cond.methodLink RX11 302 yX5_take ∈ lw_good := uw_13_in _ (List.mem_of_getElem? (i := 57) rfl)
theorem wi_X5_take : Cond.instanceMethod yX5_take ∈ lw_good := uw_13_in _ (List.mem_of_getElem? (i := 58) rfl)
theorem wl_X5_take : Cond.selects RX5 yX5_take yX5_take ∈ lw_good := uw_13_in _ (List.mem_of_getElem? (i := 59) rfl)
def uw_14 : List Cond := [Cond.methodLink RX11 304 yX5_houseAt, Cond.code yX5_setSteps cX5_setSteps 5 none, Cond.methodLink RX11 307 yX5_setSteps, Cond.instanceMethod yX5_setSteps, Cond.selects RX5 yX5_setSteps yX5_setSteps, Cond.code yX5_search cX5_search 1 none, Cond.methodLink RX11 311 yX5_search, Cond.instanceMethod yX5_search, Cond.selects RX5 yX5_search yX5_search, Cond.fieldLink RX12 431 RX12 (TX12 53).2.1 (TX12 53).2.2.1, Cond.fieldLink RX7 126 RX9 (TX9 3).2.1 (TX9 3).2.2.1, Cond.methodLink RX7 123 yX9_set, Cond.fieldLink RX12 419 RX12 (TX12 47).2.1 (TX12 47).2.2.1, Cond.fieldLink RX12 422 RX12 (TX12 48).2.1 (TX12 48).2.2.1, Cond.fieldLink RX12 425 RX12 (TX12 49).2.1 (TX12 49).2.2.1, Cond.fieldLink RX12 434 RX12 (TX12 51).2.1 (TX12 51).2.2.1, Cond.code yX12_nextSum cX12_nextSum 3 none, Cond.methodLink RX12 437 yX12_nextSum, Cond.instanceMethod yX12_nextSum, Cond.fieldLink RX12 444 RX12 (TX12 50).2.1 (TX12 50).2.2.1, Cond.fieldLink RX12 447 RX12 (TX12 54).2.1 (TX12 54).2.2.1, Cond.fieldLink RX12 441 RX12 (TX12 52).2.1 (TX12 52).2.2.1, Cond.constantLong RX12 357 99, Cond.code yX7_plain cX7_plain 4 (some .boolean), Cond.methodLink RX7 146 yX7_plain, Cond.instanceMethod yX7_plain, Cond.code yX9_aim cX9_aim 2 none, Cond.methodLink RX7 143 yX9_aim, Cond.instanceMethod yX9_aim, Cond.selects RX9 yX9_aim yX9_aim, Cond.code yX7_sumFor cX7_sumFor 2 (some .boolean), Cond.methodLink RX7 114 yX7_sumFor, Cond.instanceMethod yX7_sumFor, Cond.code yX7_test cX7_test 4 (some .boolean), Cond.methodLink RX7 129 yX7_test, Cond.instanceMethod yX7_test, Cond.code yX7_comparison cX7_comparison 3 (some .boolean), Cond.methodLink RX7 152 yX7_comparison, Cond.instanceMethod yX7_comparison, Cond.code yX7_inRound cX7_inRound 2 (some .boolean), Cond.methodLink RX7 149 yX7_inRound, Cond.instanceMethod yX7_inRound, Cond.code yX7_both cX7_both 4 (some .boolean), Cond.methodLink RX7 140 yX7_both, Cond.instanceMethod yX7_both, Cond.code yX12_makes cX12_makes 7 (some .int), Cond.methodLink RX12 163 yX12_makes, Cond.instanceMethod yX12_makes, Cond.code yX12_sets cX12_sets 5 none, Cond.methodLink RX12 167 yX12_sets, Cond.instanceMethod yX12_sets, Cond.code yX12_tells cX12_tells 10 (some .int), Cond.methodLink RX12 171 yX12_tells, Cond.instanceMethod yX12_tells, Cond.code yX12_isPlace cX12_isPlace 1 (some .boolean), Cond.methodLink RX12 205 yX12_isPlace, Cond.static yX12_isPlace, Cond.code yX12_changed cX12_changed 7 (some .int), Cond.methodLink RX12 177 yX12_changed, Cond.instanceMethod yX12_changed]
theorem uw_14_in : ∀ w ∈ uw_14, w ∈ lw_good := mem_goods [1101, 1108, 1105, 1106, 1107, 1113, 1110, 1111, 1112, 1299, 128, 879, 1293, 1294, 1295, 1297, 1854, 1851, 1853, 1296, 1300, 1298, 1551, 932, 929, 931, 944, 941, 942, 943, 878, 875, 877, 924, 921, 923, 940, 937, 939, 936, 933, 935, 928, 925, 927, 1473, 1470, 1472, 1485, 1482, 1484, 1496, 1493, 1495, 1586, 1584, 1585, 1469, 1466, 1468] rfl (by decide +kernel)
theorem km_X11_304 : Cond.methodLink RX11 304 yX5_houseAt ∈ lw_good := uw_14_in _ (List.mem_of_getElem? (i := 0) rfl)
theorem wc_X5_setSteps : Cond.code yX5_setSteps cX5_setSteps 5 none ∈ lw_good := uw_14_in _ (List.mem_of_getElem? (i := 1) rfl)
theorem km_X11_307 : Cond.methodLink RX11 307 yX5_setSteps ∈ lw_good := uw_14_in _ (List.mem_of_getElem? (i := 2) rfl)
theorem wi_X5_setSteps : Cond.instanceMethod yX5_setSteps ∈ lw_good := uw_14_in _ (List.mem_of_getElem? (i := 3) rfl)
theorem wl_X5_setSteps : Cond.selects RX5 yX5_setSteps yX5_setSteps ∈ lw_good := uw_14_in _ (List.mem_of_getElem? (i := 4) rfl)
theorem wc_X5_search : Cond.code yX5_search cX5_search 1 none ∈ lw_good := uw_14_in _ (List.mem_of_getElem? (i := 5) rfl)
theorem km_X11_311 : Cond.methodLink RX11 311 yX5_search ∈ lw_good := uw_14_in _ (List.mem_of_getElem? (i := 6) rfl)
theorem wi_X5_search : Cond.instanceMethod yX5_search ∈ lw_good := uw_14_in _ (List.mem_of_getElem? (i := 7) rfl)
theorem wl_X5_search : Cond.selects RX5 yX5_search yX5_search ∈ lw_good := uw_14_in _ (List.mem_of_getElem? (i := 8) rfl)
theorem kf_X12_431 : Cond.fieldLink RX12 431 RX12 (TX12 53).2.1 (TX12 53).2.2.1 ∈ lw_good := uw_14_in _ (List.mem_of_getElem? (i := 9) rfl)
theorem kf_X7_126 : Cond.fieldLink RX7 126 RX9 (TX9 3).2.1 (TX9 3).2.2.1 ∈ lw_good := uw_14_in _ (List.mem_of_getElem? (i := 10) rfl)
theorem km_X7_123 : Cond.methodLink RX7 123 yX9_set ∈ lw_good := uw_14_in _ (List.mem_of_getElem? (i := 11) rfl)
theorem kf_X12_419 : Cond.fieldLink RX12 419 RX12 (TX12 47).2.1 (TX12 47).2.2.1 ∈ lw_good := uw_14_in _ (List.mem_of_getElem? (i := 12) rfl)
theorem kf_X12_422 : Cond.fieldLink RX12 422 RX12 (TX12 48).2.1 (TX12 48).2.2.1 ∈ lw_good := uw_14_in _ (List.mem_of_getElem? (i := 13) rfl)
theorem kf_X12_425 : Cond.fieldLink RX12 425 RX12 (TX12 49).2.1 (TX12 49).2.2.1 ∈ lw_good := uw_14_in _ (List.mem_of_getElem? (i := 14) rfl)
theorem kf_X12_434 : Cond.fieldLink RX12 434 RX12 (TX12 51).2.1 (TX12 51).2.2.1 ∈ lw_good := uw_14_in _ (List.mem_of_getElem? (i := 15) rfl)
theorem wc_X12_nextSum : Cond.code yX12_nextSum cX12_nextSum 3 none ∈ lw_good := uw_14_in _ (List.mem_of_getElem? (i := 16) rfl)
theorem km_X12_437 : Cond.methodLink RX12 437 yX12_nextSum ∈ lw_good := uw_14_in _ (List.mem_of_getElem? (i := 17) rfl)
theorem wi_X12_nextSum : Cond.instanceMethod yX12_nextSum ∈ lw_good := uw_14_in _ (List.mem_of_getElem? (i := 18) rfl)
theorem kf_X12_444 : Cond.fieldLink RX12 444 RX12 (TX12 50).2.1 (TX12 50).2.2.1 ∈ lw_good := uw_14_in _ (List.mem_of_getElem? (i := 19) rfl)
theorem kf_X12_447 : Cond.fieldLink RX12 447 RX12 (TX12 54).2.1 (TX12 54).2.2.1 ∈ lw_good := uw_14_in _ (List.mem_of_getElem? (i := 20) rfl)
theorem kf_X12_441 : Cond.fieldLink RX12 441 RX12 (TX12 52).2.1 (TX12 52).2.2.1 ∈ lw_good := uw_14_in _ (List.mem_of_getElem? (i := 21) rfl)
theorem kl_X12_357 : Cond.constantLong RX12 357 99 ∈ lw_good := uw_14_in _ (List.mem_of_getElem? (i := 22) rfl)
theorem wc_X7_plain : Cond.code yX7_plain cX7_plain 4 (some .boolean) ∈ lw_good := uw_14_in _ (List.mem_of_getElem? (i := 23) rfl)
theorem km_X7_146 : Cond.methodLink RX7 146 yX7_plain ∈ lw_good := uw_14_in _ (List.mem_of_getElem? (i := 24) rfl)
theorem wi_X7_plain : Cond.instanceMethod yX7_plain ∈ lw_good := uw_14_in _ (List.mem_of_getElem? (i := 25) rfl)
theorem wc_X9_aim : Cond.code yX9_aim cX9_aim 2 none ∈ lw_good := uw_14_in _ (List.mem_of_getElem? (i := 26) rfl)
theorem km_X7_143 : Cond.methodLink RX7 143 yX9_aim ∈ lw_good := uw_14_in _ (List.mem_of_getElem? (i := 27) rfl)
theorem wi_X9_aim : Cond.instanceMethod yX9_aim ∈ lw_good := uw_14_in _ (List.mem_of_getElem? (i := 28) rfl)
theorem wl_X9_aim : Cond.selects RX9 yX9_aim yX9_aim ∈ lw_good := uw_14_in _ (List.mem_of_getElem? (i := 29) rfl)
theorem wc_X7_sumFor : Cond.code yX7_sumFor cX7_sumFor 2 (some .boolean) ∈ lw_good := uw_14_in _ (List.mem_of_getElem? (i := 30) rfl)
theorem km_X7_114 : Cond.methodLink RX7 114 yX7_sumFor ∈ lw_good := uw_14_in _ (List.mem_of_getElem? (i := 31) rfl)
theorem wi_X7_sumFor : Cond.instanceMethod yX7_sumFor ∈ lw_good := uw_14_in _ (List.mem_of_getElem? (i := 32) rfl)
theorem wc_X7_test : Cond.code yX7_test cX7_test 4 (some .boolean) ∈ lw_good := uw_14_in _ (List.mem_of_getElem? (i := 33) rfl)
theorem km_X7_129 : Cond.methodLink RX7 129 yX7_test ∈ lw_good := uw_14_in _ (List.mem_of_getElem? (i := 34) rfl)
theorem wi_X7_test : Cond.instanceMethod yX7_test ∈ lw_good := uw_14_in _ (List.mem_of_getElem? (i := 35) rfl)
theorem wc_X7_comparison : Cond.code yX7_comparison cX7_comparison 3 (some .boolean) ∈ lw_good := uw_14_in _ (List.mem_of_getElem? (i := 36) rfl)
theorem km_X7_152 : Cond.methodLink RX7 152 yX7_comparison ∈ lw_good := uw_14_in _ (List.mem_of_getElem? (i := 37) rfl)
theorem wi_X7_comparison : Cond.instanceMethod yX7_comparison ∈ lw_good := uw_14_in _ (List.mem_of_getElem? (i := 38) rfl)
theorem wc_X7_inRound : Cond.code yX7_inRound cX7_inRound 2 (some .boolean) ∈ lw_good := uw_14_in _ (List.mem_of_getElem? (i := 39) rfl)
theorem km_X7_149 : Cond.methodLink RX7 149 yX7_inRound ∈ lw_good := uw_14_in _ (List.mem_of_getElem? (i := 40) rfl)
theorem wi_X7_inRound : Cond.instanceMethod yX7_inRound ∈ lw_good := uw_14_in _ (List.mem_of_getElem? (i := 41) rfl)
theorem wc_X7_both : Cond.code yX7_both cX7_both 4 (some .boolean) ∈ lw_good := uw_14_in _ (List.mem_of_getElem? (i := 42) rfl)
theorem km_X7_140 : Cond.methodLink RX7 140 yX7_both ∈ lw_good := uw_14_in _ (List.mem_of_getElem? (i := 43) rfl)
theorem wi_X7_both : Cond.instanceMethod yX7_both ∈ lw_good := uw_14_in _ (List.mem_of_getElem? (i := 44) rfl)
theorem wc_X12_makes : Cond.code yX12_makes cX12_makes 7 (some .int) ∈ lw_good := uw_14_in _ (List.mem_of_getElem? (i := 45) rfl)
theorem km_X12_163 : Cond.methodLink RX12 163 yX12_makes ∈ lw_good := uw_14_in _ (List.mem_of_getElem? (i := 46) rfl)
theorem wi_X12_makes : Cond.instanceMethod yX12_makes ∈ lw_good := uw_14_in _ (List.mem_of_getElem? (i := 47) rfl)
theorem wc_X12_sets : Cond.code yX12_sets cX12_sets 5 none ∈ lw_good := uw_14_in _ (List.mem_of_getElem? (i := 48) rfl)
theorem km_X12_167 : Cond.methodLink RX12 167 yX12_sets ∈ lw_good := uw_14_in _ (List.mem_of_getElem? (i := 49) rfl)
theorem wi_X12_sets : Cond.instanceMethod yX12_sets ∈ lw_good := uw_14_in _ (List.mem_of_getElem? (i := 50) rfl)
theorem wc_X12_tells : Cond.code yX12_tells cX12_tells 10 (some .int) ∈ lw_good := uw_14_in _ (List.mem_of_getElem? (i := 51) rfl)
theorem km_X12_171 : Cond.methodLink RX12 171 yX12_tells ∈ lw_good := uw_14_in _ (List.mem_of_getElem? (i := 52) rfl)
theorem wi_X12_tells : Cond.instanceMethod yX12_tells ∈ lw_good := uw_14_in _ (List.mem_of_getElem? (i := 53) rfl)
theorem wc_X12_isPlace : Cond.code yX12_isPlace cX12_isPlace 1 (some .boolean) ∈ lw_good := uw_14_in _ (List.mem_of_getElem? (i := 54) rfl)
theorem km_X12_205 : Cond.methodLink RX12 205 yX12_isPlace ∈ lw_good := uw_14_in _ (List.mem_of_getElem? (i := 55) rfl)
theorem wt_X12_isPlace : Cond.static yX12_isPlace ∈ lw_good := uw_14_in _ (List.mem_of_getElem? (i := 56) rfl)
theorem wc_X12_changed : Cond.code yX12_changed cX12_changed 7 (some .int) ∈ lw_good := uw_14_in _ (List.mem_of_getElem? (i := 57) rfl)
theorem km_X12_177 : Cond.methodLink RX12 177 yX12_changed ∈ lw_good := uw_14_in _ (List.mem_of_getElem? (i := 58) rfl)
theorem wi_X12_changed : Cond.instanceMethod yX12_changed ∈ lw_good := uw_14_in _ (List.mem_of_getElem? (i := 59) rfl)
def uw_15 : List Cond := [Cond.code yX12_weighs cX12_weighs 5 (some .int), Cond.methodLink RX12 181 yX12_weighs, Cond.instanceMethod yX12_weighs, Cond.fieldLink RX12 174 RX12 (TX12 11).2.1 (TX12 11).2.2.1, Cond.code yX12_readClause cX12_readClause 1 none, Cond.methodLink RX12 269 yX12_readClause, Cond.instanceMethod yX12_readClause, Cond.code yX12_readOrder cX12_readOrder 1 none, Cond.methodLink RX12 266 yX12_readOrder, Cond.instanceMethod yX12_readOrder, Cond.code yX12_bears cX12_bears 7 (some .int), Cond.methodLink RX12 208 yX12_bears, Cond.instanceMethod yX12_bears, Cond.code yX12_lists cX12_lists 9 none, Cond.methodLink RX12 187 yX12_lists, Cond.instanceMethod yX12_lists, Cond.code yX12_dishAt cX12_dishAt 7 (some .int), Cond.methodLink RX12 359 yX12_dishAt, Cond.static yX12_dishAt, Cond.code yX12_placeOf cX12_placeOf 9 (some .int), Cond.methodLink RX12 362 yX12_placeOf, Cond.static yX12_placeOf, Cond.code yX12_draws cX12_draws 2 (some .int), Cond.methodLink RX12 471 yX12_draws, Cond.instanceMethod yX12_draws, Cond.code yX12_small cX12_small 2 (some .int), Cond.methodLink RX12 452 yX12_small, Cond.static yX12_small, Cond.constantLong RX12 402 1000000000000, Cond.code yX12_splits cX12_splits 6 none, Cond.methodLink RX12 294 yX12_splits, Cond.instanceMethod yX12_splits, Cond.code yX12_readOne cX12_readOne 1 none, Cond.methodLink RX12 297 yX12_readOne, Cond.instanceMethod yX12_readOne, Cond.code yX12_daughters cX12_daughters 4 (some .int), Cond.methodLink RX12 371 yX12_daughters, Cond.instanceMethod yX12_daughters, Cond.code yX12_stepsIn cX12_stepsIn 9 (some .int), Cond.methodLink RX12 374 yX12_stepsIn, Cond.instanceMethod yX12_stepsIn, Cond.code yX12_changedBack cX12_changedBack 4 (some .int), Cond.methodLink RX12 377 yX12_changedBack, Cond.instanceMethod yX12_changedBack, Cond.code yX12_leadsTo cX12_leadsTo 5 (some .boolean), Cond.methodLink RX12 380 yX12_leadsTo, Cond.instanceMethod yX12_leadsTo, Cond.code yX12_laysNext cX12_laysNext 3 none, Cond.methodLink RX12 365 yX12_laysNext, Cond.instanceMethod yX12_laysNext, Cond.code yX12_measuresTo cX12_measuresTo 7 none, Cond.methodLink RX12 393 yX12_measuresTo, Cond.instanceMethod yX12_measuresTo, Cond.code yX12_reads cX12_reads 2 (some .boolean), Cond.methodLink RX12 300 yX12_reads, Cond.instanceMethod yX12_reads, Cond.code yX12_lays cX12_lays 3 none, Cond.methodLink RX12 303 yX12_lays, Cond.instanceMethod yX12_lays, Cond.code yX12_parts cX12_parts 7 none]
theorem uw_15_in : ∀ w ∈ uw_15, w ∈ lw_good := mem_goods [1555, 1552, 1554, 1257, 1697, 1694, 1696, 1641, 1638, 1640, 1583, 1580, 1582, 1563, 1560, 1562, 1727, 1725, 1726, 1716, 1714, 1715, 1870, 1867, 1869, 1861, 1859, 1860, 1802, 1622, 1619, 1621, 1637, 1634, 1636, 1739, 1736, 1738, 1743, 1740, 1742, 1747, 1744, 1746, 1755, 1752, 1754, 1724, 1721, 1723, 1782, 1779, 1781, 1618, 1615, 1617, 1701, 1698, 1700, 1801] rfl (by decide +kernel)
theorem wc_X12_weighs : Cond.code yX12_weighs cX12_weighs 5 (some .int) ∈ lw_good := uw_15_in _ (List.mem_of_getElem? (i := 0) rfl)
theorem km_X12_181 : Cond.methodLink RX12 181 yX12_weighs ∈ lw_good := uw_15_in _ (List.mem_of_getElem? (i := 1) rfl)
theorem wi_X12_weighs : Cond.instanceMethod yX12_weighs ∈ lw_good := uw_15_in _ (List.mem_of_getElem? (i := 2) rfl)
theorem kf_X12_174 : Cond.fieldLink RX12 174 RX12 (TX12 11).2.1 (TX12 11).2.2.1 ∈ lw_good := uw_15_in _ (List.mem_of_getElem? (i := 3) rfl)
theorem wc_X12_readClause : Cond.code yX12_readClause cX12_readClause 1 none ∈ lw_good := uw_15_in _ (List.mem_of_getElem? (i := 4) rfl)
theorem km_X12_269 : Cond.methodLink RX12 269 yX12_readClause ∈ lw_good := uw_15_in _ (List.mem_of_getElem? (i := 5) rfl)
theorem wi_X12_readClause : Cond.instanceMethod yX12_readClause ∈ lw_good := uw_15_in _ (List.mem_of_getElem? (i := 6) rfl)
theorem wc_X12_readOrder : Cond.code yX12_readOrder cX12_readOrder 1 none ∈ lw_good := uw_15_in _ (List.mem_of_getElem? (i := 7) rfl)
theorem km_X12_266 : Cond.methodLink RX12 266 yX12_readOrder ∈ lw_good := uw_15_in _ (List.mem_of_getElem? (i := 8) rfl)
theorem wi_X12_readOrder : Cond.instanceMethod yX12_readOrder ∈ lw_good := uw_15_in _ (List.mem_of_getElem? (i := 9) rfl)
theorem wc_X12_bears : Cond.code yX12_bears cX12_bears 7 (some .int) ∈ lw_good := uw_15_in _ (List.mem_of_getElem? (i := 10) rfl)
theorem km_X12_208 : Cond.methodLink RX12 208 yX12_bears ∈ lw_good := uw_15_in _ (List.mem_of_getElem? (i := 11) rfl)
theorem wi_X12_bears : Cond.instanceMethod yX12_bears ∈ lw_good := uw_15_in _ (List.mem_of_getElem? (i := 12) rfl)
theorem wc_X12_lists : Cond.code yX12_lists cX12_lists 9 none ∈ lw_good := uw_15_in _ (List.mem_of_getElem? (i := 13) rfl)
theorem km_X12_187 : Cond.methodLink RX12 187 yX12_lists ∈ lw_good := uw_15_in _ (List.mem_of_getElem? (i := 14) rfl)
theorem wi_X12_lists : Cond.instanceMethod yX12_lists ∈ lw_good := uw_15_in _ (List.mem_of_getElem? (i := 15) rfl)
theorem wc_X12_dishAt : Cond.code yX12_dishAt cX12_dishAt 7 (some .int) ∈ lw_good := uw_15_in _ (List.mem_of_getElem? (i := 16) rfl)
theorem km_X12_359 : Cond.methodLink RX12 359 yX12_dishAt ∈ lw_good := uw_15_in _ (List.mem_of_getElem? (i := 17) rfl)
theorem wt_X12_dishAt : Cond.static yX12_dishAt ∈ lw_good := uw_15_in _ (List.mem_of_getElem? (i := 18) rfl)
theorem wc_X12_placeOf : Cond.code yX12_placeOf cX12_placeOf 9 (some .int) ∈ lw_good := uw_15_in _ (List.mem_of_getElem? (i := 19) rfl)
theorem km_X12_362 : Cond.methodLink RX12 362 yX12_placeOf ∈ lw_good := uw_15_in _ (List.mem_of_getElem? (i := 20) rfl)
theorem wt_X12_placeOf : Cond.static yX12_placeOf ∈ lw_good := uw_15_in _ (List.mem_of_getElem? (i := 21) rfl)
theorem wc_X12_draws : Cond.code yX12_draws cX12_draws 2 (some .int) ∈ lw_good := uw_15_in _ (List.mem_of_getElem? (i := 22) rfl)
theorem km_X12_471 : Cond.methodLink RX12 471 yX12_draws ∈ lw_good := uw_15_in _ (List.mem_of_getElem? (i := 23) rfl)
theorem wi_X12_draws : Cond.instanceMethod yX12_draws ∈ lw_good := uw_15_in _ (List.mem_of_getElem? (i := 24) rfl)
theorem wc_X12_small : Cond.code yX12_small cX12_small 2 (some .int) ∈ lw_good := uw_15_in _ (List.mem_of_getElem? (i := 25) rfl)
theorem km_X12_452 : Cond.methodLink RX12 452 yX12_small ∈ lw_good := uw_15_in _ (List.mem_of_getElem? (i := 26) rfl)
theorem wt_X12_small : Cond.static yX12_small ∈ lw_good := uw_15_in _ (List.mem_of_getElem? (i := 27) rfl)
theorem kl_X12_402 : Cond.constantLong RX12 402 1000000000000 ∈ lw_good := uw_15_in _ (List.mem_of_getElem? (i := 28) rfl)
theorem wc_X12_splits : Cond.code yX12_splits cX12_splits 6 none ∈ lw_good := uw_15_in _ (List.mem_of_getElem? (i := 29) rfl)
theorem km_X12_294 : Cond.methodLink RX12 294 yX12_splits ∈ lw_good := uw_15_in _ (List.mem_of_getElem? (i := 30) rfl)
theorem wi_X12_splits : Cond.instanceMethod yX12_splits ∈ lw_good := uw_15_in _ (List.mem_of_getElem? (i := 31) rfl)
theorem wc_X12_readOne : Cond.code yX12_readOne cX12_readOne 1 none ∈ lw_good := uw_15_in _ (List.mem_of_getElem? (i := 32) rfl)
theorem km_X12_297 : Cond.methodLink RX12 297 yX12_readOne ∈ lw_good := uw_15_in _ (List.mem_of_getElem? (i := 33) rfl)
theorem wi_X12_readOne : Cond.instanceMethod yX12_readOne ∈ lw_good := uw_15_in _ (List.mem_of_getElem? (i := 34) rfl)
theorem wc_X12_daughters : Cond.code yX12_daughters cX12_daughters 4 (some .int) ∈ lw_good := uw_15_in _ (List.mem_of_getElem? (i := 35) rfl)
theorem km_X12_371 : Cond.methodLink RX12 371 yX12_daughters ∈ lw_good := uw_15_in _ (List.mem_of_getElem? (i := 36) rfl)
theorem wi_X12_daughters : Cond.instanceMethod yX12_daughters ∈ lw_good := uw_15_in _ (List.mem_of_getElem? (i := 37) rfl)
theorem wc_X12_stepsIn : Cond.code yX12_stepsIn cX12_stepsIn 9 (some .int) ∈ lw_good := uw_15_in _ (List.mem_of_getElem? (i := 38) rfl)
theorem km_X12_374 : Cond.methodLink RX12 374 yX12_stepsIn ∈ lw_good := uw_15_in _ (List.mem_of_getElem? (i := 39) rfl)
theorem wi_X12_stepsIn : Cond.instanceMethod yX12_stepsIn ∈ lw_good := uw_15_in _ (List.mem_of_getElem? (i := 40) rfl)
theorem wc_X12_changedBack : Cond.code yX12_changedBack cX12_changedBack 4 (some .int) ∈ lw_good := uw_15_in _ (List.mem_of_getElem? (i := 41) rfl)
theorem km_X12_377 : Cond.methodLink RX12 377 yX12_changedBack ∈ lw_good := uw_15_in _ (List.mem_of_getElem? (i := 42) rfl)
theorem wi_X12_changedBack : Cond.instanceMethod yX12_changedBack ∈ lw_good := uw_15_in _ (List.mem_of_getElem? (i := 43) rfl)
theorem wc_X12_leadsTo : Cond.code yX12_leadsTo cX12_leadsTo 5 (some .boolean) ∈ lw_good := uw_15_in _ (List.mem_of_getElem? (i := 44) rfl)
theorem km_X12_380 : Cond.methodLink RX12 380 yX12_leadsTo ∈ lw_good := uw_15_in _ (List.mem_of_getElem? (i := 45) rfl)
theorem wi_X12_leadsTo : Cond.instanceMethod yX12_leadsTo ∈ lw_good := uw_15_in _ (List.mem_of_getElem? (i := 46) rfl)
theorem wc_X12_laysNext : Cond.code yX12_laysNext cX12_laysNext 3 none ∈ lw_good := uw_15_in _ (List.mem_of_getElem? (i := 47) rfl)
theorem km_X12_365 : Cond.methodLink RX12 365 yX12_laysNext ∈ lw_good := uw_15_in _ (List.mem_of_getElem? (i := 48) rfl)
theorem wi_X12_laysNext : Cond.instanceMethod yX12_laysNext ∈ lw_good := uw_15_in _ (List.mem_of_getElem? (i := 49) rfl)
theorem wc_X12_measuresTo : Cond.code yX12_measuresTo cX12_measuresTo 7 none ∈ lw_good := uw_15_in _ (List.mem_of_getElem? (i := 50) rfl)
theorem km_X12_393 : Cond.methodLink RX12 393 yX12_measuresTo ∈ lw_good := uw_15_in _ (List.mem_of_getElem? (i := 51) rfl)
theorem wi_X12_measuresTo : Cond.instanceMethod yX12_measuresTo ∈ lw_good := uw_15_in _ (List.mem_of_getElem? (i := 52) rfl)
theorem wc_X12_reads : Cond.code yX12_reads cX12_reads 2 (some .boolean) ∈ lw_good := uw_15_in _ (List.mem_of_getElem? (i := 53) rfl)
theorem km_X12_300 : Cond.methodLink RX12 300 yX12_reads ∈ lw_good := uw_15_in _ (List.mem_of_getElem? (i := 54) rfl)
theorem wi_X12_reads : Cond.instanceMethod yX12_reads ∈ lw_good := uw_15_in _ (List.mem_of_getElem? (i := 55) rfl)
theorem wc_X12_lays : Cond.code yX12_lays cX12_lays 3 none ∈ lw_good := uw_15_in _ (List.mem_of_getElem? (i := 56) rfl)
theorem km_X12_303 : Cond.methodLink RX12 303 yX12_lays ∈ lw_good := uw_15_in _ (List.mem_of_getElem? (i := 57) rfl)
theorem wi_X12_lays : Cond.instanceMethod yX12_lays ∈ lw_good := uw_15_in _ (List.mem_of_getElem? (i := 58) rfl)
theorem wc_X12_parts : Cond.code yX12_parts cX12_parts 7 none ∈ lw_good := uw_15_in _ (List.mem_of_getElem? (i := 59) rfl)
def uw_16 : List Cond := [Cond.methodLink RX12 404 yX12_parts, Cond.instanceMethod yX12_parts, Cond.code yX12_goesAlong cX12_goesAlong 4 none, Cond.methodLink RX12 456 yX12_goesAlong, Cond.instanceMethod yX12_goesAlong, Cond.code yX12_obeys cX12_obeys 2 (some .int), Cond.methodLink RX12 459 yX12_obeys, Cond.instanceMethod yX12_obeys, Cond.code yX12_measures cX12_measures 7 none, Cond.methodLink RX12 368 yX12_measures, Cond.instanceMethod yX12_measures, Cond.code yX12_isTree cX12_isTree 6 (some .boolean), Cond.methodLink RX12 399 yX12_isTree, Cond.instanceMethod yX12_isTree, Cond.code yX12_runs cX12_runs 6 (some .int), Cond.methodLink RX12 428 yX12_runs, Cond.instanceMethod yX12_runs, Cond.code yX9_open cX9_open 3 none, Cond.methodLink RX7 110 yX9_open, Cond.instanceMethod yX9_open, Cond.selects RX9 yX9_open yX9_open, Cond.code yX7_condition cX7_condition 1 (some .boolean), Cond.methodLink RX7 117 yX7_condition, Cond.instanceMethod yX7_condition, Cond.code yX7_how cX7_how 2 (some .boolean), Cond.methodLink RX7 120 yX7_how, Cond.instanceMethod yX7_how, Cond.code yX9_clear cX9_clear 1 none, Cond.methodLink RX7 57 yX9_clear, Cond.instanceMethod yX9_clear, Cond.selects RX9 yX9_clear yX9_clear, Cond.code yX7_cutTokens cX7_cutTokens 5 none, Cond.methodLink RX7 60 yX7_cutTokens, Cond.instanceMethod yX7_cutTokens, Cond.code yX7_lawClause cX7_lawClause 2 (some .boolean), Cond.methodLink RX7 73 yX7_lawClause, Cond.instanceMethod yX7_lawClause, Cond.code yX7_orderClause cX7_orderClause 2 (some .boolean), Cond.methodLink RX7 69 yX7_orderClause, Cond.instanceMethod yX7_orderClause, Cond.code yX7_read cX7_read 3 (some .boolean), Cond.methodLink RX11 192 yX7_read, Cond.instanceMethod yX7_read, Cond.selects RX7 yX7_read yX7_read, Cond.fieldLink RX11 196 RX7 (TX7 5).2.1 (TX7 5).2.2.1, Cond.fieldLink RX11 199 RX7 (TX7 3).2.1 (TX7 3).2.2.1, Cond.code yX9_kept cX9_kept 2 (some (.object "DishLines$Text")), Cond.methodLink RX11 203 yX9_kept, Cond.instanceMethod yX9_kept, Cond.selects RX9 yX9_kept yX9_kept, Cond.code yX10_addLaw cX10_addLaw 2 (some .int), Cond.methodLink RX11 209 yX10_addLaw, Cond.instanceMethod yX10_addLaw, Cond.selects RX10 yX10_addLaw yX10_addLaw, Cond.code yX11_tellSteward cX11_tellSteward 3 none, Cond.methodLink RX11 213 yX11_tellSteward, Cond.instanceMethod yX11_tellSteward, Cond.fieldLink RX11 216 RX9 (TX9 2).2.1 (TX9 2).2.2.1, Cond.code yX11_runOnce cX11_runOnce 13 (some .int), Cond.methodLink RX11 220 yX11_runOnce]
theorem uw_16_in : ∀ w ∈ uw_16, w ∈ lw_good := mem_goods [1798, 1800, 1850, 1847, 1849, 1858, 1855, 1857, 1720, 1717, 1719, 1793, 1790, 1792, 1846, 1843, 1845, 866, 863, 864, 865, 920, 917, 919, 916, 913, 915, 788, 785, 786, 787, 792, 789, 791, 948, 945, 947, 858, 855, 857, 784, 781, 782, 783, 151, 147, 952, 949, 950, 951, 961, 958, 959, 960, 970, 967, 969, 126, 987, 984] rfl (by decide +kernel)
theorem km_X12_404 : Cond.methodLink RX12 404 yX12_parts ∈ lw_good := uw_16_in _ (List.mem_of_getElem? (i := 0) rfl)
theorem wi_X12_parts : Cond.instanceMethod yX12_parts ∈ lw_good := uw_16_in _ (List.mem_of_getElem? (i := 1) rfl)
theorem wc_X12_goesAlong : Cond.code yX12_goesAlong cX12_goesAlong 4 none ∈ lw_good := uw_16_in _ (List.mem_of_getElem? (i := 2) rfl)
theorem km_X12_456 : Cond.methodLink RX12 456 yX12_goesAlong ∈ lw_good := uw_16_in _ (List.mem_of_getElem? (i := 3) rfl)
theorem wi_X12_goesAlong : Cond.instanceMethod yX12_goesAlong ∈ lw_good := uw_16_in _ (List.mem_of_getElem? (i := 4) rfl)
theorem wc_X12_obeys : Cond.code yX12_obeys cX12_obeys 2 (some .int) ∈ lw_good := uw_16_in _ (List.mem_of_getElem? (i := 5) rfl)
theorem km_X12_459 : Cond.methodLink RX12 459 yX12_obeys ∈ lw_good := uw_16_in _ (List.mem_of_getElem? (i := 6) rfl)
theorem wi_X12_obeys : Cond.instanceMethod yX12_obeys ∈ lw_good := uw_16_in _ (List.mem_of_getElem? (i := 7) rfl)
theorem wc_X12_measures : Cond.code yX12_measures cX12_measures 7 none ∈ lw_good := uw_16_in _ (List.mem_of_getElem? (i := 8) rfl)
theorem km_X12_368 : Cond.methodLink RX12 368 yX12_measures ∈ lw_good := uw_16_in _ (List.mem_of_getElem? (i := 9) rfl)
theorem wi_X12_measures : Cond.instanceMethod yX12_measures ∈ lw_good := uw_16_in _ (List.mem_of_getElem? (i := 10) rfl)
theorem wc_X12_isTree : Cond.code yX12_isTree cX12_isTree 6 (some .boolean) ∈ lw_good := uw_16_in _ (List.mem_of_getElem? (i := 11) rfl)
theorem km_X12_399 : Cond.methodLink RX12 399 yX12_isTree ∈ lw_good := uw_16_in _ (List.mem_of_getElem? (i := 12) rfl)
theorem wi_X12_isTree : Cond.instanceMethod yX12_isTree ∈ lw_good := uw_16_in _ (List.mem_of_getElem? (i := 13) rfl)
theorem wc_X12_runs : Cond.code yX12_runs cX12_runs 6 (some .int) ∈ lw_good := uw_16_in _ (List.mem_of_getElem? (i := 14) rfl)
theorem km_X12_428 : Cond.methodLink RX12 428 yX12_runs ∈ lw_good := uw_16_in _ (List.mem_of_getElem? (i := 15) rfl)
theorem wi_X12_runs : Cond.instanceMethod yX12_runs ∈ lw_good := uw_16_in _ (List.mem_of_getElem? (i := 16) rfl)
theorem wc_X9_open : Cond.code yX9_open cX9_open 3 none ∈ lw_good := uw_16_in _ (List.mem_of_getElem? (i := 17) rfl)
theorem km_X7_110 : Cond.methodLink RX7 110 yX9_open ∈ lw_good := uw_16_in _ (List.mem_of_getElem? (i := 18) rfl)
theorem wi_X9_open : Cond.instanceMethod yX9_open ∈ lw_good := uw_16_in _ (List.mem_of_getElem? (i := 19) rfl)
theorem wl_X9_open : Cond.selects RX9 yX9_open yX9_open ∈ lw_good := uw_16_in _ (List.mem_of_getElem? (i := 20) rfl)
theorem wc_X7_condition : Cond.code yX7_condition cX7_condition 1 (some .boolean) ∈ lw_good := uw_16_in _ (List.mem_of_getElem? (i := 21) rfl)
theorem km_X7_117 : Cond.methodLink RX7 117 yX7_condition ∈ lw_good := uw_16_in _ (List.mem_of_getElem? (i := 22) rfl)
theorem wi_X7_condition : Cond.instanceMethod yX7_condition ∈ lw_good := uw_16_in _ (List.mem_of_getElem? (i := 23) rfl)
theorem wc_X7_how : Cond.code yX7_how cX7_how 2 (some .boolean) ∈ lw_good := uw_16_in _ (List.mem_of_getElem? (i := 24) rfl)
theorem km_X7_120 : Cond.methodLink RX7 120 yX7_how ∈ lw_good := uw_16_in _ (List.mem_of_getElem? (i := 25) rfl)
theorem wi_X7_how : Cond.instanceMethod yX7_how ∈ lw_good := uw_16_in _ (List.mem_of_getElem? (i := 26) rfl)
theorem wc_X9_clear : Cond.code yX9_clear cX9_clear 1 none ∈ lw_good := uw_16_in _ (List.mem_of_getElem? (i := 27) rfl)
theorem km_X7_57 : Cond.methodLink RX7 57 yX9_clear ∈ lw_good := uw_16_in _ (List.mem_of_getElem? (i := 28) rfl)
theorem wi_X9_clear : Cond.instanceMethod yX9_clear ∈ lw_good := uw_16_in _ (List.mem_of_getElem? (i := 29) rfl)
theorem wl_X9_clear : Cond.selects RX9 yX9_clear yX9_clear ∈ lw_good := uw_16_in _ (List.mem_of_getElem? (i := 30) rfl)
theorem wc_X7_cutTokens : Cond.code yX7_cutTokens cX7_cutTokens 5 none ∈ lw_good := uw_16_in _ (List.mem_of_getElem? (i := 31) rfl)
theorem km_X7_60 : Cond.methodLink RX7 60 yX7_cutTokens ∈ lw_good := uw_16_in _ (List.mem_of_getElem? (i := 32) rfl)
theorem wi_X7_cutTokens : Cond.instanceMethod yX7_cutTokens ∈ lw_good := uw_16_in _ (List.mem_of_getElem? (i := 33) rfl)
theorem wc_X7_lawClause : Cond.code yX7_lawClause cX7_lawClause 2 (some .boolean) ∈ lw_good := uw_16_in _ (List.mem_of_getElem? (i := 34) rfl)
theorem km_X7_73 : Cond.methodLink RX7 73 yX7_lawClause ∈ lw_good := uw_16_in _ (List.mem_of_getElem? (i := 35) rfl)
theorem wi_X7_lawClause : Cond.instanceMethod yX7_lawClause ∈ lw_good := uw_16_in _ (List.mem_of_getElem? (i := 36) rfl)
theorem wc_X7_orderClause : Cond.code yX7_orderClause cX7_orderClause 2 (some .boolean) ∈ lw_good := uw_16_in _ (List.mem_of_getElem? (i := 37) rfl)
theorem km_X7_69 : Cond.methodLink RX7 69 yX7_orderClause ∈ lw_good := uw_16_in _ (List.mem_of_getElem? (i := 38) rfl)
theorem wi_X7_orderClause : Cond.instanceMethod yX7_orderClause ∈ lw_good := uw_16_in _ (List.mem_of_getElem? (i := 39) rfl)
theorem wc_X7_read : Cond.code yX7_read cX7_read 3 (some .boolean) ∈ lw_good := uw_16_in _ (List.mem_of_getElem? (i := 40) rfl)
theorem km_X11_192 : Cond.methodLink RX11 192 yX7_read ∈ lw_good := uw_16_in _ (List.mem_of_getElem? (i := 41) rfl)
theorem wi_X7_read : Cond.instanceMethod yX7_read ∈ lw_good := uw_16_in _ (List.mem_of_getElem? (i := 42) rfl)
theorem wl_X7_read : Cond.selects RX7 yX7_read yX7_read ∈ lw_good := uw_16_in _ (List.mem_of_getElem? (i := 43) rfl)
theorem kf_X11_196 : Cond.fieldLink RX11 196 RX7 (TX7 5).2.1 (TX7 5).2.2.1 ∈ lw_good := uw_16_in _ (List.mem_of_getElem? (i := 44) rfl)
theorem kf_X11_199 : Cond.fieldLink RX11 199 RX7 (TX7 3).2.1 (TX7 3).2.2.1 ∈ lw_good := uw_16_in _ (List.mem_of_getElem? (i := 45) rfl)
theorem wc_X9_kept : Cond.code yX9_kept cX9_kept 2 (some (.object "DishLines$Text")) ∈ lw_good := uw_16_in _ (List.mem_of_getElem? (i := 46) rfl)
theorem km_X11_203 : Cond.methodLink RX11 203 yX9_kept ∈ lw_good := uw_16_in _ (List.mem_of_getElem? (i := 47) rfl)
theorem wi_X9_kept : Cond.instanceMethod yX9_kept ∈ lw_good := uw_16_in _ (List.mem_of_getElem? (i := 48) rfl)
theorem wl_X9_kept : Cond.selects RX9 yX9_kept yX9_kept ∈ lw_good := uw_16_in _ (List.mem_of_getElem? (i := 49) rfl)
theorem wc_X10_addLaw : Cond.code yX10_addLaw cX10_addLaw 2 (some .int) ∈ lw_good := uw_16_in _ (List.mem_of_getElem? (i := 50) rfl)
theorem km_X11_209 : Cond.methodLink RX11 209 yX10_addLaw ∈ lw_good := uw_16_in _ (List.mem_of_getElem? (i := 51) rfl)
theorem wi_X10_addLaw : Cond.instanceMethod yX10_addLaw ∈ lw_good := uw_16_in _ (List.mem_of_getElem? (i := 52) rfl)
theorem wl_X10_addLaw : Cond.selects RX10 yX10_addLaw yX10_addLaw ∈ lw_good := uw_16_in _ (List.mem_of_getElem? (i := 53) rfl)
theorem wc_X11_tellSteward : Cond.code yX11_tellSteward cX11_tellSteward 3 none ∈ lw_good := uw_16_in _ (List.mem_of_getElem? (i := 54) rfl)
theorem km_X11_213 : Cond.methodLink RX11 213 yX11_tellSteward ∈ lw_good := uw_16_in _ (List.mem_of_getElem? (i := 55) rfl)
theorem wi_X11_tellSteward : Cond.instanceMethod yX11_tellSteward ∈ lw_good := uw_16_in _ (List.mem_of_getElem? (i := 56) rfl)
theorem kf_X11_216 : Cond.fieldLink RX11 216 RX9 (TX9 2).2.1 (TX9 2).2.2.1 ∈ lw_good := uw_16_in _ (List.mem_of_getElem? (i := 57) rfl)
theorem wc_X11_runOnce : Cond.code yX11_runOnce cX11_runOnce 13 (some .int) ∈ lw_good := uw_16_in _ (List.mem_of_getElem? (i := 58) rfl)
theorem km_X11_220 : Cond.methodLink RX11 220 yX11_runOnce ∈ lw_good := uw_16_in _ (List.mem_of_getElem? (i := 59) rfl)
def uw_17 : List Cond := [Cond.instanceMethod yX11_runOnce, Cond.instantiable RX0 9, Cond.instantiable RX1 8, Cond.instantiable RX2 11, Cond.instantiable RX3 2, Cond.instantiable RX4 10, Cond.instantiable RX5 12, Cond.instantiable RX6 4, Cond.instantiable RX7 10, Cond.instantiable RX8 7, Cond.instantiable RX9 5, Cond.instantiable RX10 15, Cond.instantiable RX11 16, Cond.instantiable RX12 59, Cond.static arraycopyName, Cond.native arraycopyName, Cond.initialized "java/lang/System"]
theorem uw_17_in : ∀ w ∈ uw_17, w ∈ lw_good := mem_goods [986, 372, 224, 648, 178, 285, 327, 230, 109, 194, 115, 31, 23, 1240, 956, 957, 20] rfl (by decide +kernel)
theorem wi_X11_runOnce : Cond.instanceMethod yX11_runOnce ∈ lw_good := uw_17_in _ (List.mem_of_getElem? (i := 0) rfl)
theorem wm_0 : Cond.instantiable RX0 9 ∈ lw_good := uw_17_in _ (List.mem_of_getElem? (i := 1) rfl)
theorem wm_1 : Cond.instantiable RX1 8 ∈ lw_good := uw_17_in _ (List.mem_of_getElem? (i := 2) rfl)
theorem wm_2 : Cond.instantiable RX2 11 ∈ lw_good := uw_17_in _ (List.mem_of_getElem? (i := 3) rfl)
theorem wm_3 : Cond.instantiable RX3 2 ∈ lw_good := uw_17_in _ (List.mem_of_getElem? (i := 4) rfl)
theorem wm_4 : Cond.instantiable RX4 10 ∈ lw_good := uw_17_in _ (List.mem_of_getElem? (i := 5) rfl)
theorem wm_5 : Cond.instantiable RX5 12 ∈ lw_good := uw_17_in _ (List.mem_of_getElem? (i := 6) rfl)
theorem wm_6 : Cond.instantiable RX6 4 ∈ lw_good := uw_17_in _ (List.mem_of_getElem? (i := 7) rfl)
theorem wm_7 : Cond.instantiable RX7 10 ∈ lw_good := uw_17_in _ (List.mem_of_getElem? (i := 8) rfl)
theorem wm_8 : Cond.instantiable RX8 7 ∈ lw_good := uw_17_in _ (List.mem_of_getElem? (i := 9) rfl)
theorem wm_9 : Cond.instantiable RX9 5 ∈ lw_good := uw_17_in _ (List.mem_of_getElem? (i := 10) rfl)
theorem wm_10 : Cond.instantiable RX10 15 ∈ lw_good := uw_17_in _ (List.mem_of_getElem? (i := 11) rfl)
theorem wm_11 : Cond.instantiable RX11 16 ∈ lw_good := uw_17_in _ (List.mem_of_getElem? (i := 12) rfl)
theorem wm_12 : Cond.instantiable RX12 59 ∈ lw_good := uw_17_in _ (List.mem_of_getElem? (i := 13) rfl)
theorem wt_acopy : Cond.static arraycopyName ∈ lw_good := uw_17_in _ (List.mem_of_getElem? (i := 14) rfl)
theorem wv_acopy : Cond.native arraycopyName ∈ lw_good := uw_17_in _ (List.mem_of_getElem? (i := 15) rfl)
theorem wn_sys : Cond.initialized "java/lang/System" ∈ lw_good := uw_17_in _ (List.mem_of_getElem? (i := 16) rfl)
theorem wl_X10_isLikeEarlier : Cond.selects yX10_isLikeEarlier.cls yX10_isLikeEarlier yX10_isLikeEarlier ∈ lw_good := mem_sel (i := 79) (q := (yX10_isLikeEarlier, _)) rfl (by decide)
theorem wl_X11_refuse : Cond.selects yX11_refuse.cls yX11_refuse yX11_refuse ∈ lw_good := mem_sel (i := 0) (q := (yX11_refuse, _)) rfl (by decide)
theorem wl_X11_accept : Cond.selects yX11_accept.cls yX11_accept yX11_accept ∈ lw_good := mem_sel (i := 1) (q := (yX11_accept, _)) rfl (by decide)
theorem wl_X12_fact : Cond.selects yX12_fact.cls yX12_fact yX12_fact ∈ lw_good := mem_sel (i := 111) (q := (yX12_fact, _)) rfl (by decide)
theorem wl_X12_has : Cond.selects yX12_has.cls yX12_has yX12_has ∈ lw_good := mem_sel (i := 103) (q := (yX12_has, _)) rfl (by decide)
theorem wl_X12_good : Cond.selects yX12_good.cls yX12_good yX12_good ∈ lw_good := mem_sel (i := 97) (q := (yX12_good, _)) rfl (by decide)
theorem wl_X12_refuses : Cond.selects yX12_refuses.cls yX12_refuses yX12_refuses ∈ lw_good := mem_sel (i := 96) (q := (yX12_refuses, _)) rfl (by decide)
theorem wl_X12_fine : Cond.selects yX12_fine.cls yX12_fine yX12_fine ∈ lw_good := mem_sel (i := 160) (q := (yX12_fine, _)) rfl (by decide)
theorem wl_X12_opens : Cond.selects yX12_opens.cls yX12_opens yX12_opens ∈ lw_good := mem_sel (i := 100) (q := (yX12_opens, _)) rfl (by decide)
theorem wl_X12_closes : Cond.selects yX12_closes.cls yX12_closes yX12_closes ∈ lw_good := mem_sel (i := 101) (q := (yX12_closes, _)) rfl (by decide)
theorem wl_X12_codeAt : Cond.selects yX12_codeAt.cls yX12_codeAt yX12_codeAt ∈ lw_good := mem_sel (i := 105) (q := (yX12_codeAt, _)) rfl (by decide)
theorem wl_X12_adds : Cond.selects yX12_adds.cls yX12_adds yX12_adds ∈ lw_good := mem_sel (i := 136) (q := (yX12_adds, _)) rfl (by decide)
theorem wl_X12_wordOf : Cond.selects yX12_wordOf.cls yX12_wordOf yX12_wordOf ∈ lw_good := mem_sel (i := 140) (q := (yX12_wordOf, _)) rfl (by decide)
theorem wl_X2_note : Cond.selects yX2_note.cls yX2_note yX2_note ∈ lw_good := mem_sel (i := 5) (q := (yX2_note, _)) rfl (by decide)
theorem wl_X5_comesOf : Cond.selects yX5_comesOf.cls yX5_comesOf yX5_comesOf ∈ lw_good := mem_sel (i := 77) (q := (yX5_comesOf, _)) rfl (by decide)
theorem wl_X5_seek : Cond.selects yX5_seek.cls yX5_seek yX5_seek ∈ lw_good := mem_sel (i := 75) (q := (yX5_seek, _)) rfl (by decide)
theorem wl_X5_noteRow : Cond.selects yX5_noteRow.cls yX5_noteRow yX5_noteRow ∈ lw_good := mem_sel (i := 76) (q := (yX5_noteRow, _)) rfl (by decide)
theorem wl_X5_nearest : Cond.selects yX5_nearest.cls yX5_nearest yX5_nearest ∈ lw_good := mem_sel (i := 73) (q := (yX5_nearest, _)) rfl (by decide)
theorem wl_X7_next : Cond.selects yX7_next.cls yX7_next yX7_next ∈ lw_good := mem_sel (i := 32) (q := (yX7_next, _)) rfl (by decide)
theorem wl_X11_tellHouse : Cond.selects yX11_tellHouse.cls yX11_tellHouse yX11_tellHouse ∈ lw_good := mem_sel (i := 66) (q := (yX11_tellHouse, _)) rfl (by decide)
theorem wl_X12_without : Cond.selects yX12_without.cls yX12_without yX12_without ∈ lw_good := mem_sel (i := 203) (q := (yX12_without, _)) rfl (by decide)
theorem wl_X12_areAlike : Cond.selects yX12_areAlike.cls yX12_areAlike yX12_areAlike ∈ lw_good := mem_sel (i := 202) (q := (yX12_areAlike, _)) rfl (by decide)
theorem wl_X12_faults : Cond.selects yX12_faults.cls yX12_faults yX12_faults ∈ lw_good := mem_sel (i := 164) (q := (yX12_faults, _)) rfl (by decide)
theorem wl_X12_takes0 : Cond.selects yX12_takes0.cls yX12_takes0 yX12_takes0 ∈ lw_good := mem_sel (i := 143) (q := (yX12_takes0, _)) rfl (by decide)
theorem wl_X12_passes0 : Cond.selects yX12_passes0.cls yX12_passes0 yX12_passes0 ∈ lw_good := mem_sel (i := 109) (q := (yX12_passes0, _)) rfl (by decide)
theorem wl_X12_isHouse : Cond.selects yX12_isHouse.cls yX12_isHouse yX12_isHouse ∈ lw_good := mem_sel (i := 110) (q := (yX12_isHouse, _)) rfl (by decide)
theorem wl_X12_sumOf : Cond.selects yX12_sumOf.cls yX12_sumOf yX12_sumOf ∈ lw_good := mem_sel (i := 106) (q := (yX12_sumOf, _)) rfl (by decide)
theorem wl_X12_isPoor : Cond.selects yX12_isPoor.cls yX12_isPoor yX12_isPoor ∈ lw_good := mem_sel (i := 196) (q := (yX12_isPoor, _)) rfl (by decide)
theorem wl_X12_gotFor : Cond.selects yX12_gotFor.cls yX12_gotFor yX12_gotFor ∈ lw_good := mem_sel (i := 204) (q := (yX12_gotFor, _)) rfl (by decide)
theorem wl_X12_termOf : Cond.selects yX12_termOf.cls yX12_termOf yX12_termOf ∈ lw_good := mem_sel (i := 107) (q := (yX12_termOf, _)) rfl (by decide)
theorem wl_X12_bounded : Cond.selects yX12_bounded.cls yX12_bounded yX12_bounded ∈ lw_good := mem_sel (i := 128) (q := (yX12_bounded, _)) rfl (by decide)
theorem wl_X12_partOf : Cond.selects yX12_partOf.cls yX12_partOf yX12_partOf ∈ lw_good := mem_sel (i := 108) (q := (yX12_partOf, _)) rfl (by decide)
theorem wl_X7_sum : Cond.selects yX7_sum.cls yX7_sum yX7_sum ∈ lw_good := mem_sel (i := 34) (q := (yX7_sum, _)) rfl (by decide)
theorem wl_X7_fail : Cond.selects yX7_fail.cls yX7_fail yX7_fail ∈ lw_good := mem_sel (i := 15) (q := (yX7_fail, _)) rfl (by decide)
theorem wl_X7_lawWord : Cond.selects yX7_lawWord.cls yX7_lawWord yX7_lawWord ∈ lw_good := mem_sel (i := 39) (q := (yX7_lawWord, _)) rfl (by decide)
theorem wl_X7_orderWord : Cond.selects yX7_orderWord.cls yX7_orderWord yX7_orderWord ∈ lw_good := mem_sel (i := 38) (q := (yX7_orderWord, _)) rfl (by decide)
theorem wl_X7_inSquare : Cond.selects yX7_inSquare.cls yX7_inSquare yX7_inSquare ∈ lw_good := mem_sel (i := 37) (q := (yX7_inSquare, _)) rfl (by decide)
theorem wl_X7_term : Cond.selects yX7_term.cls yX7_term yX7_term ∈ lw_good := mem_sel (i := 35) (q := (yX7_term, _)) rfl (by decide)
theorem wl_X7_opOf : Cond.selects yX7_opOf.cls yX7_opOf yX7_opOf ∈ lw_good := mem_sel (i := 40) (q := (yX7_opOf, _)) rfl (by decide)
theorem wl_X7_part : Cond.selects yX7_part.cls yX7_part yX7_part ∈ lw_good := mem_sel (i := 36) (q := (yX7_part, _)) rfl (by decide)
theorem wl_X7_wordOf : Cond.selects yX7_wordOf.cls yX7_wordOf yX7_wordOf ∈ lw_good := mem_sel (i := 13) (q := (yX7_wordOf, _)) rfl (by decide)
theorem wl_X11_settle : Cond.selects yX11_settle.cls yX11_settle yX11_settle ∈ lw_good := mem_sel (i := 2) (q := (yX11_settle, _)) rfl (by decide)
theorem wl_X12_plainOf : Cond.selects yX12_plainOf.cls yX12_plainOf yX12_plainOf ∈ lw_good := mem_sel (i := 131) (q := (yX12_plainOf, _)) rfl (by decide)
theorem wl_X12_whyNot : Cond.selects yX12_whyNot.cls yX12_whyNot yX12_whyNot ∈ lw_good := mem_sel (i := 135) (q := (yX12_whyNot, _)) rfl (by decide)
theorem wl_X12_positiveOf : Cond.selects yX12_positiveOf.cls yX12_positiveOf yX12_positiveOf ∈ lw_good := mem_sel (i := 132) (q := (yX12_positiveOf, _)) rfl (by decide)
theorem wl_X12_testOf : Cond.selects yX12_testOf.cls yX12_testOf yX12_testOf ∈ lw_good := mem_sel (i := 129) (q := (yX12_testOf, _)) rfl (by decide)
theorem wl_X12_leaf : Cond.selects yX12_leaf.cls yX12_leaf yX12_leaf ∈ lw_good := mem_sel (i := 167) (q := (yX12_leaf, _)) rfl (by decide)
theorem wl_X12_mustNumber : Cond.selects yX12_mustNumber.cls yX12_mustNumber yX12_mustNumber ∈ lw_good := mem_sel (i := 168) (q := (yX12_mustNumber, _)) rfl (by decide)
theorem wl_X12_isValue : Cond.selects yX12_isValue.cls yX12_isValue yX12_isValue ∈ lw_good := mem_sel (i := 166) (q := (yX12_isValue, _)) rfl (by decide)
theorem wl_X12_readSum : Cond.selects yX12_readSum.cls yX12_readSum yX12_readSum ∈ lw_good := mem_sel (i := 161) (q := (yX12_readSum, _)) rfl (by decide)
theorem wl_X12_must : Cond.selects yX12_must.cls yX12_must yX12_must ∈ lw_good := mem_sel (i := 165) (q := (yX12_must, _)) rfl (by decide)
theorem wl_X12_readTerm : Cond.selects yX12_readTerm.cls yX12_readTerm yX12_readTerm ∈ lw_good := mem_sel (i := 162) (q := (yX12_readTerm, _)) rfl (by decide)
theorem wl_X12_readPart : Cond.selects yX12_readPart.cls yX12_readPart yX12_readPart ∈ lw_good := mem_sel (i := 163) (q := (yX12_readPart, _)) rfl (by decide)
theorem wl_X12_areHouses : Cond.selects yX12_areHouses.cls yX12_areHouses yX12_areHouses ∈ lw_good := mem_sel (i := 197) (q := (yX12_areHouses, _)) rfl (by decide)
theorem wl_X12_groups : Cond.selects yX12_groups.cls yX12_groups yX12_groups ∈ lw_good := mem_sel (i := 201) (q := (yX12_groups, _)) rfl (by decide)
theorem wl_X12_bothOf : Cond.selects yX12_bothOf.cls yX12_bothOf yX12_bothOf ∈ lw_good := mem_sel (i := 130) (q := (yX12_bothOf, _)) rfl (by decide)
theorem wl_X7_kindAt : Cond.selects yX7_kindAt.cls yX7_kindAt yX7_kindAt ∈ lw_good := mem_sel (i := 11) (q := (yX7_kindAt, _)) rfl (by decide)
theorem wl_X7_tokenOf : Cond.selects yX7_tokenOf.cls yX7_tokenOf yX7_tokenOf ∈ lw_good := mem_sel (i := 12) (q := (yX7_tokenOf, _)) rfl (by decide)
theorem wl_X8_askLaw : Cond.selects yX8_askLaw.cls yX8_askLaw yX8_askLaw ∈ lw_good := mem_sel (i := 4) (q := (yX8_askLaw, _)) rfl (by decide)
theorem wl_X12_readPlain : Cond.selects yX12_readPlain.cls yX12_readPlain yX12_readPlain ∈ lw_good := mem_sel (i := 171) (q := (yX12_readPlain, _)) rfl (by decide)
theorem wl_X12_readTest : Cond.selects yX12_readTest.cls yX12_readTest yX12_readTest ∈ lw_good := mem_sel (i := 169) (q := (yX12_readTest, _)) rfl (by decide)
theorem wl_X12_readBoth : Cond.selects yX12_readBoth.cls yX12_readBoth yX12_readBoth ∈ lw_good := mem_sel (i := 170) (q := (yX12_readBoth, _)) rfl (by decide)
theorem wl_X2_undoInAndDouble : Cond.selects yX2_undoInAndDouble.cls yX2_undoInAndDouble yX2_undoInAndDouble ∈ lw_good := mem_sel (i := 6) (q := (yX2_undoInAndDouble, _)) rfl (by decide)
theorem wl_X2_undoSwap : Cond.selects yX2_undoSwap.cls yX2_undoSwap yX2_undoSwap ∈ lw_good := mem_sel (i := 7) (q := (yX2_undoSwap, _)) rfl (by decide)
theorem wl_X2_undoStand : Cond.selects yX2_undoStand.cls yX2_undoStand yX2_undoStand ∈ lw_good := mem_sel (i := 9) (q := (yX2_undoStand, _)) rfl (by decide)
theorem wl_X2_undoOut : Cond.selects yX2_undoOut.cls yX2_undoOut yX2_undoOut ∈ lw_good := mem_sel (i := 8) (q := (yX2_undoOut, _)) rfl (by decide)
theorem wl_X0_handOn : Cond.selects yX0_handOn.cls yX0_handOn yX0_handOn ∈ lw_good := mem_sel (i := 78) (q := (yX0_handOn, _)) rfl (by decide)
theorem wl_X11_giveBirth : Cond.selects yX11_giveBirth.cls yX11_giveBirth yX11_giveBirth ∈ lw_good := mem_sel (i := 3) (q := (yX11_giveBirth, _)) rfl (by decide)
theorem wl_X11_turnYear : Cond.selects yX11_turnYear.cls yX11_turnYear yX11_turnYear ∈ lw_good := mem_sel (i := 68) (q := (yX11_turnYear, _)) rfl (by decide)
theorem wl_X4_addFrom : Cond.selects yX4_addFrom.cls yX4_addFrom yX4_addFrom ∈ lw_good := mem_sel (i := 70) (q := (yX4_addFrom, _)) rfl (by decide)
theorem wl_X4_findLeast : Cond.selects yX4_findLeast.cls yX4_findLeast yX4_findLeast ∈ lw_good := mem_sel (i := 71) (q := (yX4_findLeast, _)) rfl (by decide)
theorem wl_X11_keepsCustom : Cond.selects yX11_keepsCustom.cls yX11_keepsCustom yX11_keepsCustom ∈ lw_good := mem_sel (i := 69) (q := (yX11_keepsCustom, _)) rfl (by decide)
theorem wl_X5_workFewest : Cond.selects yX5_workFewest.cls yX5_workFewest yX5_workFewest ∈ lw_good := mem_sel (i := 72) (q := (yX5_workFewest, _)) rfl (by decide)
theorem wl_X5_workFloor : Cond.selects yX5_workFloor.cls yX5_workFloor yX5_workFloor ∈ lw_good := mem_sel (i := 74) (q := (yX5_workFloor, _)) rfl (by decide)
theorem wl_X12_nextSum : Cond.selects yX12_nextSum.cls yX12_nextSum yX12_nextSum ∈ lw_good := mem_sel (i := 207) (q := (yX12_nextSum, _)) rfl (by decide)
theorem wl_X7_plain : Cond.selects yX7_plain.cls yX7_plain yX7_plain ∈ lw_good := mem_sel (i := 45) (q := (yX7_plain, _)) rfl (by decide)
theorem wl_X7_sumFor : Cond.selects yX7_sumFor.cls yX7_sumFor yX7_sumFor ∈ lw_good := mem_sel (i := 33) (q := (yX7_sumFor, _)) rfl (by decide)
theorem wl_X7_test : Cond.selects yX7_test.cls yX7_test yX7_test ∈ lw_good := mem_sel (i := 43) (q := (yX7_test, _)) rfl (by decide)
theorem wl_X7_comparison : Cond.selects yX7_comparison.cls yX7_comparison yX7_comparison ∈ lw_good := mem_sel (i := 47) (q := (yX7_comparison, _)) rfl (by decide)
theorem wl_X7_inRound : Cond.selects yX7_inRound.cls yX7_inRound yX7_inRound ∈ lw_good := mem_sel (i := 46) (q := (yX7_inRound, _)) rfl (by decide)
theorem wl_X7_both : Cond.selects yX7_both.cls yX7_both yX7_both ∈ lw_good := mem_sel (i := 44) (q := (yX7_both, _)) rfl (by decide)
theorem wl_X12_makes : Cond.selects yX12_makes.cls yX12_makes yX12_makes ∈ lw_good := mem_sel (i := 99) (q := (yX12_makes, _)) rfl (by decide)
theorem wl_X12_sets : Cond.selects yX12_sets.cls yX12_sets yX12_sets ∈ lw_good := mem_sel (i := 102) (q := (yX12_sets, _)) rfl (by decide)
theorem wl_X12_tells : Cond.selects yX12_tells.cls yX12_tells yX12_tells ∈ lw_good := mem_sel (i := 104) (q := (yX12_tells, _)) rfl (by decide)
theorem wl_X12_changed : Cond.selects yX12_changed.cls yX12_changed yX12_changed ∈ lw_good := mem_sel (i := 98) (q := (yX12_changed, _)) rfl (by decide)
theorem wl_X12_weighs : Cond.selects yX12_weighs.cls yX12_weighs yX12_weighs ∈ lw_good := mem_sel (i := 133) (q := (yX12_weighs, _)) rfl (by decide)
theorem wl_X12_readClause : Cond.selects yX12_readClause.cls yX12_readClause yX12_readClause ∈ lw_good := mem_sel (i := 172) (q := (yX12_readClause, _)) rfl (by decide)
theorem wl_X12_readOrder : Cond.selects yX12_readOrder.cls yX12_readOrder yX12_readOrder ∈ lw_good := mem_sel (i := 142) (q := (yX12_readOrder, _)) rfl (by decide)
theorem wl_X12_bears : Cond.selects yX12_bears.cls yX12_bears yX12_bears ∈ lw_good := mem_sel (i := 137) (q := (yX12_bears, _)) rfl (by decide)
theorem wl_X12_lists : Cond.selects yX12_lists.cls yX12_lists yX12_lists ∈ lw_good := mem_sel (i := 134) (q := (yX12_lists, _)) rfl (by decide)
theorem wl_X12_draws : Cond.selects yX12_draws.cls yX12_draws yX12_draws ∈ lw_good := mem_sel (i := 225) (q := (yX12_draws, _)) rfl (by decide)
theorem wl_X12_splits : Cond.selects yX12_splits.cls yX12_splits yX12_splits ∈ lw_good := mem_sel (i := 139) (q := (yX12_splits, _)) rfl (by decide)
theorem wl_X12_readOne : Cond.selects yX12_readOne.cls yX12_readOne yX12_readOne ∈ lw_good := mem_sel (i := 141) (q := (yX12_readOne, _)) rfl (by decide)
theorem wl_X12_daughters : Cond.selects yX12_daughters.cls yX12_daughters yX12_daughters ∈ lw_good := mem_sel (i := 192) (q := (yX12_daughters, _)) rfl (by decide)
theorem wl_X12_stepsIn : Cond.selects yX12_stepsIn.cls yX12_stepsIn yX12_stepsIn ∈ lw_good := mem_sel (i := 193) (q := (yX12_stepsIn, _)) rfl (by decide)
theorem wl_X12_changedBack : Cond.selects yX12_changedBack.cls yX12_changedBack yX12_changedBack ∈ lw_good := mem_sel (i := 194) (q := (yX12_changedBack, _)) rfl (by decide)
theorem wl_X12_leadsTo : Cond.selects yX12_leadsTo.cls yX12_leadsTo yX12_leadsTo ∈ lw_good := mem_sel (i := 195) (q := (yX12_leadsTo, _)) rfl (by decide)
theorem wl_X12_laysNext : Cond.selects yX12_laysNext.cls yX12_laysNext yX12_laysNext ∈ lw_good := mem_sel (i := 175) (q := (yX12_laysNext, _)) rfl (by decide)
theorem wl_X12_measuresTo : Cond.selects yX12_measuresTo.cls yX12_measuresTo yX12_measuresTo ∈ lw_good := mem_sel (i := 198) (q := (yX12_measuresTo, _)) rfl (by decide)
theorem wl_X12_reads : Cond.selects yX12_reads.cls yX12_reads yX12_reads ∈ lw_good := mem_sel (i := 138) (q := (yX12_reads, _)) rfl (by decide)
theorem wl_X12_lays : Cond.selects yX12_lays.cls yX12_lays yX12_lays ∈ lw_good := mem_sel (i := 173) (q := (yX12_lays, _)) rfl (by decide)
theorem wl_X12_parts : Cond.selects yX12_parts.cls yX12_parts yX12_parts ∈ lw_good := mem_sel (i := 200) (q := (yX12_parts, _)) rfl (by decide)
theorem wl_X12_goesAlong : Cond.selects yX12_goesAlong.cls yX12_goesAlong yX12_goesAlong ∈ lw_good := mem_sel (i := 206) (q := (yX12_goesAlong, _)) rfl (by decide)
theorem wl_X12_obeys : Cond.selects yX12_obeys.cls yX12_obeys yX12_obeys ∈ lw_good := mem_sel (i := 224) (q := (yX12_obeys, _)) rfl (by decide)
theorem wl_X12_measures : Cond.selects yX12_measures.cls yX12_measures yX12_measures ∈ lw_good := mem_sel (i := 174) (q := (yX12_measures, _)) rfl (by decide)
theorem wl_X12_isTree : Cond.selects yX12_isTree.cls yX12_isTree yX12_isTree ∈ lw_good := mem_sel (i := 199) (q := (yX12_isTree, _)) rfl (by decide)
theorem wl_X12_runs : Cond.selects yX12_runs.cls yX12_runs yX12_runs ∈ lw_good := mem_sel (i := 205) (q := (yX12_runs, _)) rfl (by decide)
theorem wl_X7_condition : Cond.selects yX7_condition.cls yX7_condition yX7_condition ∈ lw_good := mem_sel (i := 42) (q := (yX7_condition, _)) rfl (by decide)
theorem wl_X7_how : Cond.selects yX7_how.cls yX7_how yX7_how ∈ lw_good := mem_sel (i := 41) (q := (yX7_how, _)) rfl (by decide)
theorem wl_X7_cutTokens : Cond.selects yX7_cutTokens.cls yX7_cutTokens yX7_cutTokens ∈ lw_good := mem_sel (i := 10) (q := (yX7_cutTokens, _)) rfl (by decide)
theorem wl_X7_lawClause : Cond.selects yX7_lawClause.cls yX7_lawClause yX7_lawClause ∈ lw_good := mem_sel (i := 64) (q := (yX7_lawClause, _)) rfl (by decide)
theorem wl_X7_orderClause : Cond.selects yX7_orderClause.cls yX7_orderClause yX7_orderClause ∈ lw_good := mem_sel (i := 14) (q := (yX7_orderClause, _)) rfl (by decide)
theorem wl_X11_tellSteward : Cond.selects yX11_tellSteward.cls yX11_tellSteward yX11_tellSteward ∈ lw_good := mem_sel (i := 65) (q := (yX11_tellSteward, _)) rfl (by decide)
theorem wl_X11_runOnce : Cond.selects yX11_runOnce.cls yX11_runOnce yX11_runOnce ∈ lw_good := mem_sel (i := 67) (q := (yX11_runOnce, _)) rfl (by decide)
theorem cpyW : CpyW := ⟨wv_acopy, wt_acopy, wn_sys⟩
theorem F_0_in : ∀ w ∈ u_ws RX0 TX0 9, w ∈ lw_good := mem_goods [387, 389, 391, 393, 395, 397, 399, 401, 403] rfl (by decide +kernel)
theorem F_0 : FCls 0 RX0 TX0 9 tyX0 := ⟨by decide, rfl, F_0_in, tyX0_ok, nmX0, rfl, by decide +kernel, wm_0, wn_X0, by decide +kernel⟩
theorem F_1_in : ∀ w ∈ u_ws RX1 TX1 8, w ∈ lw_good := mem_goods [267, 269, 271, 273, 275, 277, 279, 281] rfl (by decide +kernel)
theorem F_1 : FCls 1 RX1 TX1 8 tyX1 := ⟨by decide, rfl, F_1_in, tyX1_ok, nmX1, rfl, by decide +kernel, wm_1, wn_X1, by decide +kernel⟩
theorem F_2_in : ∀ w ∈ u_ws RX2 TX2 11, w ∈ lw_good := mem_goods [666, 668, 670, 672, 674, 676, 678, 680, 682, 684, 686] rfl (by decide +kernel)
theorem F_2 : FCls 2 RX2 TX2 11 tyX2 := ⟨by decide, rfl, F_2_in, tyX2_ok, nmX2, rfl, by decide +kernel, wm_2, wn_X2, by decide +kernel⟩
theorem F_3_in : ∀ w ∈ u_ws RX3 TX3 2, w ∈ lw_good := mem_goods [187, 189] rfl (by decide +kernel)
theorem F_3 : FCls 3 RX3 TX3 2 tyX3 := ⟨by decide, rfl, F_3_in, tyX3_ok, nmX3, rfl, by decide +kernel, wm_3, wn_X3, by decide +kernel⟩
theorem F_4_in : ∀ w ∈ u_ws RX4 TX4 10, w ∈ lw_good := mem_goods [305, 307, 309, 311, 313, 315, 317, 319, 321, 323] rfl (by decide +kernel)
theorem F_4 : FCls 4 RX4 TX4 10 tyX4 := ⟨by decide, rfl, F_4_in, tyX4_ok, nmX4, rfl, by decide +kernel, wm_4, wn_X4, by decide +kernel⟩
theorem F_5_in : ∀ w ∈ u_ws RX5 TX5 12, w ∈ lw_good := mem_goods [346, 348, 350, 352, 354, 356, 358, 360, 362, 364, 366, 368] rfl (by decide +kernel)
theorem F_5 : FCls 5 RX5 TX5 12 tyX5 := ⟨by decide, rfl, F_5_in, tyX5_ok, nmX5, rfl, by decide +kernel, wm_5, wn_X5, by decide +kernel⟩
theorem F_6_in : ∀ w ∈ u_ws RX6 TX6 4, w ∈ lw_good := mem_goods [242, 244, 246, 248] rfl (by decide +kernel)
theorem F_6 : FCls 6 RX6 TX6 4 tyX6 := ⟨by decide, rfl, F_6_in, tyX6_ok, nmX6, rfl, by decide +kernel, wm_6, wn_X6, by decide +kernel⟩
theorem F_7_in : ∀ w ∈ u_ws RX7 TX7 10, w ∈ lw_good := mem_goods [156, 158, 160, 162, 164, 166, 168, 170, 172, 174] rfl (by decide +kernel)
theorem F_7 : FCls 7 RX7 TX7 10 tyX7 := ⟨by decide, rfl, F_7_in, tyX7_ok, nmX7, rfl, by decide +kernel, wm_7, wn_X7, by decide +kernel⟩
theorem F_8_in : ∀ w ∈ u_ws RX8 TX8 7, w ∈ lw_good := mem_goods [208, 210, 212, 214, 216, 218, 220] rfl (by decide +kernel)
theorem F_8 : FCls 8 RX8 TX8 7 tyX8 := ⟨by decide, rfl, F_8_in, tyX8_ok, nmX8, rfl, by decide +kernel, wm_8, wn_X8, by decide +kernel⟩
theorem F_9_in : ∀ w ∈ u_ws RX9 TX9 5, w ∈ lw_good := mem_goods [132, 134, 136, 138, 140] rfl (by decide +kernel)
theorem F_9 : FCls 9 RX9 TX9 5 tyX9 := ⟨by decide, rfl, F_9_in, tyX9_ok, nmX9, rfl, by decide +kernel, wm_9, wn_X9, by decide +kernel⟩
theorem F_10_in : ∀ w ∈ u_ws RX10 TX10 15, w ∈ lw_good := mem_goods [75, 77, 79, 81, 83, 85, 87, 89, 91, 93, 95, 97, 99, 101, 103] rfl (by decide +kernel)
theorem F_10 : FCls 10 RX10 TX10 15 tyX10 := ⟨by decide, rfl, F_10_in, tyX10_ok, nmX10, rfl, by decide +kernel, wm_10, wn_X10, by decide +kernel⟩
theorem F_11_in : ∀ w ∈ u_ws RX11 TX11 16, w ∈ lw_good := mem_goods [422, 424, 426, 428, 430, 432, 434, 436, 438, 440, 442, 444, 446, 448, 450, 452] rfl (by decide +kernel)
theorem F_11 : FCls 11 RX11 TX11 16 tyX11 := ⟨by decide, rfl, F_11_in, tyX11_ok, nmX11, rfl, by decide +kernel, wm_11, wn_X11, by decide +kernel⟩
theorem F_12_in : ∀ w ∈ u_ws RX12 TX12 59, w ∈ lw_good := mem_goods [1305, 1307, 1309, 1311, 1313, 1315, 1317, 1319, 1321, 1323, 1325, 1327, 1329, 1331, 1333, 1335, 1337, 1339, 1341, 1343, 1345, 1347, 1349, 1351, 1353, 1355, 1357, 1359, 1361, 1363, 1365, 1367, 1369, 1371, 1373, 1375, 1377, 1379, 1381, 1383, 1385, 1387, 1389, 1391, 1393, 1395, 1397, 1399, 1401, 1403, 1405, 1407, 1409, 1411, 1413, 1415, 1417, 1419, 1421] rfl (by decide +kernel)
theorem F_12 : FCls 12 RX12 TX12 59 tyX12 := ⟨by decide, rfl, F_12_in, tyX12_ok, nmX12, rfl, by decide +kernel, wm_12, wn_X12, by decide +kernel⟩
theorem cl_X10_hasHouse : Cal yX10_hasHouse cX10_hasHouse 2 (some .boolean) 1 := ⟨wc_X10_hasHouse, wn_X10, by decide, by decide, by decide +kernel⟩
theorem cl_X11_isThing : Cal yX11_isThing cX11_isThing 1 (some .boolean) 1 := ⟨wc_X11_isThing, wn_X11, by decide, by decide, by decide +kernel⟩
theorem cl_X10_isLikeEarlier : Cal yX10_isLikeEarlier cX10_isLikeEarlier 5 (some .boolean) 3 := ⟨wc_X10_isLikeEarlier, wn_X10, by decide, by decide, by decide +kernel⟩
theorem cl_X10_holds : Cal yX10_holds cX10_holds 3 (some .int) 2 := ⟨wc_X10_holds, wn_X10, by decide, by decide, by decide +kernel⟩
theorem cl_X10_touchRules : Cal yX10_touchRules cX10_touchRules 1 none 0 := ⟨wc_X10_touchRules, wn_X10, by decide, by decide, by decide +kernel⟩
theorem cl_X11_refuse : Cal yX11_refuse cX11_refuse 2 (some .int) 1 := ⟨wc_X11_refuse, wn_X11, by decide, by decide, by decide +kernel⟩
theorem cl_X11_accept : Cal yX11_accept cX11_accept 2 (some .int) 1 := ⟨wc_X11_accept, wn_X11, by decide, by decide, by decide +kernel⟩
theorem cl_X10_thingRow : Cal yX10_thingRow cX10_thingRow 2 (some (.array .int)) 1 := ⟨wc_X10_thingRow, wn_X10, by decide, by decide, by decide +kernel⟩
theorem cl_X6_lengthOf : Cal yX6_lengthOf cX6_lengthOf 2 (some .int) 1 := ⟨wc_X6_lengthOf, wn_X6, by decide, by decide, by decide +kernel⟩
theorem cl_X11_isYear : Cal yX11_isYear cX11_isYear 1 (some .boolean) 1 := ⟨wc_X11_isYear, wn_X11, by decide, by decide, by decide +kernel⟩
theorem cl_X10_turnTo : Cal yX10_turnTo cX10_turnTo 2 none 1 := ⟨wc_X10_turnTo, wn_X10, by decide, by decide, by decide +kernel⟩
theorem cl_X12_isOne : Cal yX12_isOne cX12_isOne 2 (some .boolean) 2 := ⟨wc_X12_isOne, wn_X12, by decide, by decide, by decide +kernel⟩
theorem cl_X12_fact : Cal yX12_fact cX12_fact 3 (some .int) 2 := ⟨wc_X12_fact, wn_X12, by decide, by decide, by decide +kernel⟩
theorem cl_X12_has : Cal yX12_has cX12_has 5 (some .int) 2 := ⟨wc_X12_has, wn_X12, by decide, by decide, by decide +kernel⟩
theorem cl_X12_lies : Cal yX12_lies cX12_lies 3 (some .boolean) 3 := ⟨wc_X12_lies, wn_X12, by decide, by decide, by decide +kernel⟩
theorem cl_X12_good : Cal yX12_good cX12_good 2 (some .int) 1 := ⟨wc_X12_good, wn_X12, by decide, by decide, by decide +kernel⟩
theorem cl_X12_refuses : Cal yX12_refuses cX12_refuses 2 (some .int) 1 := ⟨wc_X12_refuses, wn_X12, by decide, by decide, by decide +kernel⟩
theorem cl_X12_fine : Cal yX12_fine cX12_fine 1 (some .boolean) 0 := ⟨wc_X12_fine, wn_X12, by decide, by decide, by decide +kernel⟩
theorem cl_X12_opens : Cal yX12_opens cX12_opens 4 none 1 := ⟨wc_X12_opens, wn_X12, by decide, by decide, by decide +kernel⟩
theorem cl_X12_closes : Cal yX12_closes cX12_closes 3 (some .int) 0 := ⟨wc_X12_closes, wn_X12, by decide, by decide, by decide +kernel⟩
theorem cl_X12_codeAt : Cal yX12_codeAt cX12_codeAt 2 (some .int) 1 := ⟨wc_X12_codeAt, wn_X12, by decide, by decide, by decide +kernel⟩
theorem cl_X12_adds : Cal yX12_adds cX12_adds 5 none 3 := ⟨wc_X12_adds, wn_X12, by decide, by decide, by decide +kernel⟩
theorem cl_X12_longOf : Cal yX12_longOf cX12_longOf 3 (some .int) 1 := ⟨wc_X12_longOf, wn_X12, by decide, by decide, by decide +kernel⟩
theorem cl_X12_isSmall : Cal yX12_isSmall cX12_isSmall 1 (some .boolean) 1 := ⟨wc_X12_isSmall, wn_X12, by decide, by decide, by decide +kernel⟩
theorem cl_X12_isDigit : Cal yX12_isDigit cX12_isDigit 1 (some .boolean) 1 := ⟨wc_X12_isDigit, wn_X12, by decide, by decide, by decide +kernel⟩
theorem cl_X12_wordOf : Cal yX12_wordOf cX12_wordOf 8 (some .int) 2 := ⟨wc_X12_wordOf, wn_X12, by decide, by decide, by decide +kernel⟩
theorem cl_X6_init : Cal yX6_init cX6_init 1 none 0 := ⟨wc_X6_init, wn_X6, by decide, by decide, by decide +kernel⟩
theorem cl_J7_fill_fb410 : Cal yJ7_fill_fb410 cJ7_fill_fb410 4 none 2 := ⟨wc_J7_fill_fb410, wn_J7, by decide, by decide, by decide +kernel⟩
theorem cl_X2_note : Cal yX2_note cX2_note 2 none 1 := ⟨wc_X2_note, wn_X2, by decide, by decide, by decide +kernel⟩
theorem cl_X3_apply : Cal yX3_apply cX3_apply 7 (some .long) 3 := ⟨wc_X3_apply, wn_X3, by decide, by decide, by decide +kernel⟩
theorem cl_X5_houseAt : Cal yX5_houseAt cX5_houseAt 2 (some .int) 1 := ⟨wc_X5_houseAt, wn_X5, by decide, by decide, by decide +kernel⟩
theorem cl_X5_comesOf : Cal yX5_comesOf cX5_comesOf 5 (some .boolean) 2 := ⟨wc_X5_comesOf, wn_X5, by decide, by decide, by decide +kernel⟩
theorem cl_X5_seek : Cal yX5_seek cX5_seek 7 none 3 := ⟨wc_X5_seek, wn_X5, by decide, by decide, by decide +kernel⟩
theorem cl_X5_noteRow : Cal yX5_noteRow cX5_noteRow 1 none 0 := ⟨wc_X5_noteRow, wn_X5, by decide, by decide, by decide +kernel⟩
theorem cl_J6_bitCount_0f7a4 : Cal yJ6_bitCount_0f7a4 cJ6_bitCount_0f7a4 1 (some .int) 1 := ⟨wc_J6_bitCount_0f7a4, wn_J6, by decide, by decide, by decide +kernel⟩
theorem cl_X5_nearest : Cal yX5_nearest cX5_nearest 5 (some .int) 2 := ⟨wc_X5_nearest, wn_X5, by decide, by decide, by decide +kernel⟩
theorem cl_X6_hasPlace : Cal yX6_hasPlace cX6_hasPlace 2 (some .boolean) 1 := ⟨wc_X6_hasPlace, wn_X6, by decide, by decide, by decide +kernel⟩
theorem cl_X6_hasRoomAt : Cal yX6_hasRoomAt cX6_hasRoomAt 2 (some .boolean) 1 := ⟨wc_X6_hasRoomAt, wn_X6, by decide, by decide, by decide +kernel⟩
theorem cl_X7_hasRoomFor : Cal yX7_hasRoomFor cX7_hasRoomFor 2 (some .boolean) 1 := ⟨wc_X7_hasRoomFor, wn_X7, by decide, by decide, by decide +kernel⟩
theorem cl_X7_byteAt : Cal yX7_byteAt cX7_byteAt 2 (some .int) 1 := ⟨wc_X7_byteAt, wn_X7, by decide, by decide, by decide +kernel⟩
theorem cl_X6_rankOf : Cal yX6_rankOf cX6_rankOf 6 (some .int) 1 := ⟨wc_X6_rankOf, wn_X6, by decide, by decide, by decide +kernel⟩
theorem cl_X9_init : Cal yX9_init cX9_init 3 none 2 := ⟨wc_X9_init, wn_X9, by decide, by decide, by decide +kernel⟩
theorem cl_X7_next : Cal yX7_next cX7_next 1 none 0 := ⟨wc_X7_next, wn_X7, by decide, by decide, by decide +kernel⟩
theorem cl_X3_init : Cal yX3_init cX3_init 1 none 0 := ⟨wc_X3_init, wn_X3, by decide, by decide, by decide +kernel⟩
theorem cl_X10_textInForce : Cal yX10_textInForce cX10_textInForce 1 (some (.object "DishLines$Text")) 0 := ⟨wc_X10_textInForce, wn_X10, by decide, by decide, by decide +kernel⟩
theorem cl_X9_set : Cal yX9_set cX9_set 4 none 2 := ⟨wc_X9_set, wn_X9, by decide, by decide, by decide +kernel⟩
theorem cl_X6_tasteOf : Cal yX6_tasteOf cX6_tasteOf 5 (some .int) 1 := ⟨wc_X6_tasteOf, wn_X6, by decide, by decide, by decide +kernel⟩
theorem cl_X10_takeFrom : Cal yX10_takeFrom cX10_takeFrom 2 none 1 := ⟨wc_X10_takeFrom, wn_X10, by decide, by decide, by decide +kernel⟩
theorem cl_X6_leftOut : Cal yX6_leftOut cX6_leftOut 8 (some .int) 2 := ⟨wc_X6_leftOut, wn_X6, by decide, by decide, by decide +kernel⟩
theorem cl_X6_numberOf : Cal yX6_numberOf cX6_numberOf 6 (some .int) 1 := ⟨wc_X6_numberOf, wn_X6, by decide, by decide, by decide +kernel⟩
theorem cl_X7_addFour : Cal yX7_addFour cX7_addFour 3 none 1 := ⟨wc_X7_addFour, wn_X7, by decide, by decide, by decide +kernel⟩
theorem cl_X10_init : Cal yX10_init cX10_init 1 none 0 := ⟨wc_X10_init, wn_X10, by decide, by decide, by decide +kernel⟩
theorem cl_X7_init : Cal yX7_init cX7_init 1 none 0 := ⟨wc_X7_init, wn_X7, by decide, by decide, by decide +kernel⟩
theorem cl_X8_init : Cal yX8_init cX8_init 2 none 1 := ⟨wc_X8_init, wn_X8, by decide, by decide, by decide +kernel⟩
theorem cl_X1_init : Cal yX1_init cX1_init 3 none 2 := ⟨wc_X1_init, wn_X1, by decide, by decide, by decide +kernel⟩
theorem cl_X4_init : Cal yX4_init cX4_init 3 none 2 := ⟨wc_X4_init, wn_X4, by decide, by decide, by decide +kernel⟩
theorem cl_X5_init : Cal yX5_init cX5_init 1 none 0 := ⟨wc_X5_init, wn_X5, by decide, by decide, by decide +kernel⟩
theorem cl_X0_init : Cal yX0_init cX0_init 4 none 3 := ⟨wc_X0_init, wn_X0, by decide, by decide, by decide +kernel⟩
theorem cl_X10_yearBehind : Cal yX10_yearBehind cX10_yearBehind 4 (some .int) 1 := ⟨wc_X10_yearBehind, wn_X10, by decide, by decide, by decide +kernel⟩
theorem cl_X10_isPoor : Cal yX10_isPoor cX10_isPoor 5 (some .boolean) 2 := ⟨wc_X10_isPoor, wn_X10, by decide, by decide, by decide +kernel⟩
theorem cl_X11_isValueOf : Cal yX11_isValueOf cX11_isValueOf 3 (some .boolean) 3 := ⟨wc_X11_isValueOf, wn_X11, by decide, by decide, by decide +kernel⟩
theorem cl_X10_gotInstead : Cal yX10_gotInstead cX10_gotInstead 4 (some .int) 1 := ⟨wc_X10_gotInstead, wn_X10, by decide, by decide, by decide +kernel⟩
theorem cl_X10_toldOf : Cal yX10_toldOf cX10_toldOf 2 (some .int) 1 := ⟨wc_X10_toldOf, wn_X10, by decide, by decide, by decide +kernel⟩
theorem cl_X10_groupsBy : Cal yX10_groupsBy cX10_groupsBy 6 (some .int) 2 := ⟨wc_X10_groupsBy, wn_X10, by decide, by decide, by decide +kernel⟩
theorem cl_J7_fill_53178 : Cal yJ7_fill_53178 cJ7_fill_53178 4 none 2 := ⟨wc_J7_fill_53178, wn_J7, by decide, by decide, by decide +kernel⟩
theorem cl_X11_tellHouse : Cal yX11_tellHouse cX11_tellHouse 3 none 1 := ⟨wc_X11_tellHouse, wn_X11, by decide, by decide, by decide +kernel⟩
theorem cl_X10_keepHouses : Cal yX10_keepHouses cX10_keepHouses 2 none 1 := ⟨wc_X10_keepHouses, wn_X10, by decide, by decide, by decide +kernel⟩
theorem cl_X12_isDish : Cal yX12_isDish cX12_isDish 2 (some .boolean) 1 := ⟨wc_X12_isDish, wn_X12, by decide, by decide, by decide +kernel⟩
theorem cl_X12_without : Cal yX12_without cX12_without 5 (some .int) 2 := ⟨wc_X12_without, wn_X12, by decide, by decide, by decide +kernel⟩
theorem cl_X12_areAlike : Cal yX12_areAlike cX12_areAlike 5 (some .boolean) 3 := ⟨wc_X12_areAlike, wn_X12, by decide, by decide, by decide +kernel⟩
theorem cl_X12_faults : Cal yX12_faults cX12_faults 1 none 0 := ⟨wc_X12_faults, wn_X12, by decide, by decide, by decide +kernel⟩
theorem cl_X12_takes0 : Cal yX12_takes0 cX12_takes0 3 (some .boolean) 1 := ⟨wc_X12_takes0, wn_X12, by decide, by decide, by decide +kernel⟩
theorem cl_X12_isThing : Cal yX12_isThing cX12_isThing 1 (some .boolean) 1 := ⟨wc_X12_isThing, wn_X12, by decide, by decide, by decide +kernel⟩
theorem cl_X12_sign : Cal yX12_sign cX12_sign 1 (some .int) 1 := ⟨wc_X12_sign, wn_X12, by decide, by decide, by decide +kernel⟩
theorem cl_X12_passes0 : Cal yX12_passes0 cX12_passes0 3 (some .boolean) 1 := ⟨wc_X12_passes0, wn_X12, by decide, by decide, by decide +kernel⟩
theorem cl_X12_isHouse : Cal yX12_isHouse cX12_isHouse 2 (some .boolean) 1 := ⟨wc_X12_isHouse, wn_X12, by decide, by decide, by decide +kernel⟩
theorem cl_X12_sumOf : Cal yX12_sumOf cX12_sumOf 7 (some .long) 1 := ⟨wc_X12_sumOf, wn_X12, by decide, by decide, by decide +kernel⟩
theorem cl_X12_isPoor : Cal yX12_isPoor cX12_isPoor 6 (some .boolean) 2 := ⟨wc_X12_isPoor, wn_X12, by decide, by decide, by decide +kernel⟩
theorem cl_X12_isPut : Cal yX12_isPut cX12_isPut 3 (some .boolean) 3 := ⟨wc_X12_isPut, wn_X12, by decide, by decide, by decide +kernel⟩
theorem cl_X12_gotFor : Cal yX12_gotFor cX12_gotFor 4 (some .int) 1 := ⟨wc_X12_gotFor, wn_X12, by decide, by decide, by decide +kernel⟩
theorem cl_X12_termOf : Cal yX12_termOf cX12_termOf 7 (some .long) 1 := ⟨wc_X12_termOf, wn_X12, by decide, by decide, by decide +kernel⟩
theorem cl_X12_bounded : Cal yX12_bounded cX12_bounded 4 (some .long) 2 := ⟨wc_X12_bounded, wn_X12, by decide, by decide, by decide +kernel⟩
theorem cl_X12_partOf : Cal yX12_partOf cX12_partOf 5 (some .long) 1 := ⟨wc_X12_partOf, wn_X12, by decide, by decide, by decide +kernel⟩
theorem cl_X6_load : Cal yX6_load cX6_load 5 none 1 := ⟨wc_X6_load, wn_X6, by decide, by decide, by decide +kernel⟩
theorem cl_X8_open : Cal yX8_open cX8_open 3 none 1 := ⟨wc_X8_open, wn_X8, by decide, by decide, by decide +kernel⟩
theorem cl_X2_isOf : Cal yX2_isOf cX2_isOf 3 (some .boolean) 2 := ⟨wc_X2_isOf, wn_X2, by decide, by decide, by decide +kernel⟩
theorem cl_X2_begin : Cal yX2_begin cX2_begin 4 none 2 := ⟨wc_X2_begin, wn_X2, by decide, by decide, by decide +kernel⟩
theorem cl_X2_init : Cal yX2_init cX2_init 3 none 2 := ⟨wc_X2_init, wn_X2, by decide, by decide, by decide +kernel⟩
theorem cl_X6_with : Cal yX6_with cX6_with 4 (some .int) 2 := ⟨wc_X6_with, wn_X6, by decide, by decide, by decide +kernel⟩
theorem cl_X7_sum : Cal yX7_sum cX7_sum 4 (some .boolean) 1 := ⟨wc_X7_sum, wn_X7, by decide, by decide, by decide +kernel⟩
theorem cl_X7_fail : Cal yX7_fail cX7_fail 1 (some .boolean) 0 := ⟨wc_X7_fail, wn_X7, by decide, by decide, by decide +kernel⟩
theorem cl_X9_emit : Cal yX9_emit cX9_emit 3 (some .int) 2 := ⟨wc_X9_emit, wn_X9, by decide, by decide, by decide +kernel⟩
theorem cl_X7_lawWord : Cal yX7_lawWord cX7_lawWord 1 (some .int) 0 := ⟨wc_X7_lawWord, wn_X7, by decide, by decide, by decide +kernel⟩
theorem cl_X7_orderWord : Cal yX7_orderWord cX7_orderWord 4 (some .int) 0 := ⟨wc_X7_orderWord, wn_X7, by decide, by decide, by decide +kernel⟩
theorem cl_X7_inSquare : Cal yX7_inSquare cX7_inSquare 2 (some .boolean) 1 := ⟨wc_X7_inSquare, wn_X7, by decide, by decide, by decide +kernel⟩
theorem cl_X7_term : Cal yX7_term cX7_term 4 (some .boolean) 1 := ⟨wc_X7_term, wn_X7, by decide, by decide, by decide +kernel⟩
theorem cl_X7_opOf : Cal yX7_opOf cX7_opOf 4 (some .int) 2 := ⟨wc_X7_opOf, wn_X7, by decide, by decide, by decide +kernel⟩
theorem cl_X7_part : Cal yX7_part cX7_part 3 (some .boolean) 1 := ⟨wc_X7_part, wn_X7, by decide, by decide, by decide +kernel⟩
theorem cl_X7_wordOf : Cal yX7_wordOf cX7_wordOf 7 (some .int) 2 := ⟨wc_X7_wordOf, wn_X7, by decide, by decide, by decide +kernel⟩
theorem cl_X9_told : Cal yX9_told cX9_told 4 (some .int) 2 := ⟨wc_X9_told, wn_X9, by decide, by decide, by decide +kernel⟩
theorem cl_X3_run : Cal yX3_run cX3_run 9 (some .long) 2 := ⟨wc_X3_run, wn_X3, by decide, by decide, by decide +kernel⟩
theorem cl_X10_add : Cal yX10_add cX10_add 4 (some .int) 3 := ⟨wc_X10_add, wn_X10, by decide, by decide, by decide +kernel⟩
theorem cl_X11_settle : Cal yX11_settle cX11_settle 2 (some .int) 1 := ⟨wc_X11_settle, wn_X11, by decide, by decide, by decide +kernel⟩
theorem cl_X7_dishAt : Cal yX7_dishAt cX7_dishAt 5 (some .int) 2 := ⟨wc_X7_dishAt, wn_X7, by decide, by decide, by decide +kernel⟩
theorem cl_X12_plainOf : Cal yX12_plainOf cX12_plainOf 3 (some .boolean) 1 := ⟨wc_X12_plainOf, wn_X12, by decide, by decide, by decide +kernel⟩
theorem cl_X12_whyNot : Cal yX12_whyNot cX12_whyNot 4 (some .int) 3 := ⟨wc_X12_whyNot, wn_X12, by decide, by decide, by decide +kernel⟩
theorem cl_X12_positiveOf : Cal yX12_positiveOf cX12_positiveOf 7 (some .boolean) 1 := ⟨wc_X12_positiveOf, wn_X12, by decide, by decide, by decide +kernel⟩
theorem cl_X12_testOf : Cal yX12_testOf cX12_testOf 4 (some .boolean) 1 := ⟨wc_X12_testOf, wn_X12, by decide, by decide, by decide +kernel⟩
theorem cl_X12_leaf : Cal yX12_leaf cX12_leaf 1 none 0 := ⟨wc_X12_leaf, wn_X12, by decide, by decide, by decide +kernel⟩
theorem cl_X12_mustNumber : Cal yX12_mustNumber cX12_mustNumber 3 none 2 := ⟨wc_X12_mustNumber, wn_X12, by decide, by decide, by decide +kernel⟩
theorem cl_X12_isValue : Cal yX12_isValue cX12_isValue 2 (some .boolean) 1 := ⟨wc_X12_isValue, wn_X12, by decide, by decide, by decide +kernel⟩
theorem cl_X12_readSum : Cal yX12_readSum cX12_readSum 2 none 1 := ⟨wc_X12_readSum, wn_X12, by decide, by decide, by decide +kernel⟩
theorem cl_X12_must : Cal yX12_must cX12_must 2 none 1 := ⟨wc_X12_must, wn_X12, by decide, by decide, by decide +kernel⟩
theorem cl_X12_readTerm : Cal yX12_readTerm cX12_readTerm 2 none 1 := ⟨wc_X12_readTerm, wn_X12, by decide, by decide, by decide +kernel⟩
theorem cl_X12_readPart : Cal yX12_readPart cX12_readPart 3 none 1 := ⟨wc_X12_readPart, wn_X12, by decide, by decide, by decide +kernel⟩
theorem cl_X12_areHouses : Cal yX12_areHouses cX12_areHouses 2 (some .boolean) 1 := ⟨wc_X12_areHouses, wn_X12, by decide, by decide, by decide +kernel⟩
theorem cl_X12_groups : Cal yX12_groups cX12_groups 7 (some .int) 2 := ⟨wc_X12_groups, wn_X12, by decide, by decide, by decide +kernel⟩
theorem cl_X12_ones : Cal yX12_ones cX12_ones 3 (some .int) 1 := ⟨wc_X12_ones, wn_X12, by decide, by decide, by decide +kernel⟩
theorem cl_X12_bothOf : Cal yX12_bothOf cX12_bothOf 4 (some .boolean) 1 := ⟨wc_X12_bothOf, wn_X12, by decide, by decide, by decide +kernel⟩
theorem cl_X7_kindAt : Cal yX7_kindAt cX7_kindAt 3 (some .int) 1 := ⟨wc_X7_kindAt, wn_X7, by decide, by decide, by decide +kernel⟩
theorem cl_X7_tokenOf : Cal yX7_tokenOf cX7_tokenOf 6 (some .int) 3 := ⟨wc_X7_tokenOf, wn_X7, by decide, by decide, by decide +kernel⟩
theorem cl_X8_askLaw : Cal yX8_askLaw cX8_askLaw 6 (some .int) 0 := ⟨wc_X8_askLaw, wn_X8, by decide, by decide, by decide +kernel⟩
theorem cl_X12_readPlain : Cal yX12_readPlain cX12_readPlain 4 none 1 := ⟨wc_X12_readPlain, wn_X12, by decide, by decide, by decide +kernel⟩
theorem cl_X12_readTest : Cal yX12_readTest cX12_readTest 2 none 1 := ⟨wc_X12_readTest, wn_X12, by decide, by decide, by decide +kernel⟩
theorem cl_X12_readBoth : Cal yX12_readBoth cX12_readBoth 2 none 1 := ⟨wc_X12_readBoth, wn_X12, by decide, by decide, by decide +kernel⟩
theorem cl_X8_weightOf : Cal yX8_weightOf cX8_weightOf 8 (some .int) 5 := ⟨wc_X8_weightOf, wn_X8, by decide, by decide, by decide +kernel⟩
theorem cl_X6_without : Cal yX6_without cX6_without 3 (some .int) 1 := ⟨wc_X6_without, wn_X6, by decide, by decide, by decide +kernel⟩
theorem cl_X6_swapped : Cal yX6_swapped cX6_swapped 3 (some .int) 1 := ⟨wc_X6_swapped, wn_X6, by decide, by decide, by decide +kernel⟩
theorem cl_X6_doubled : Cal yX6_doubled cX6_doubled 2 (some .int) 1 := ⟨wc_X6_doubled, wn_X6, by decide, by decide, by decide +kernel⟩
theorem cl_X6_replaced : Cal yX6_replaced cX6_replaced 3 (some .int) 2 := ⟨wc_X6_replaced, wn_X6, by decide, by decide, by decide +kernel⟩
theorem cl_X11_isChange : Cal yX11_isChange cX11_isChange 3 (some .boolean) 3 := ⟨wc_X11_isChange, wn_X11, by decide, by decide, by decide +kernel⟩
theorem cl_X1_take : Cal yX1_take cX1_take 2 none 1 := ⟨wc_X1_take, wn_X1, by decide, by decide, by decide +kernel⟩
theorem cl_X1_makes : Cal yX1_makes cX1_makes 6 (some .int) 3 := ⟨wc_X1_makes, wn_X1, by decide, by decide, by decide +kernel⟩
theorem cl_X8_isFree : Cal yX8_isFree cX8_isFree 1 (some .boolean) 0 := ⟨wc_X8_isFree, wn_X8, by decide, by decide, by decide +kernel⟩
theorem cl_X2_undoInAndDouble : Cal yX2_undoInAndDouble cX2_undoInAndDouble 12 none 3 := ⟨wc_X2_undoInAndDouble, wn_X2, by decide, by decide, by decide +kernel⟩
theorem cl_X2_undoSwap : Cal yX2_undoSwap cX2_undoSwap 10 none 3 := ⟨wc_X2_undoSwap, wn_X2, by decide, by decide, by decide +kernel⟩
theorem cl_X2_undoStand : Cal yX2_undoStand cX2_undoStand 10 none 3 := ⟨wc_X2_undoStand, wn_X2, by decide, by decide, by decide +kernel⟩
theorem cl_X2_undoOut : Cal yX2_undoOut cX2_undoOut 10 none 3 := ⟨wc_X2_undoOut, wn_X2, by decide, by decide, by decide +kernel⟩
theorem cl_J7_fill_d0a16 : Cal yJ7_fill_d0a16 cJ7_fill_d0a16 5 none 2 := ⟨wc_J7_fill_d0a16, wn_J7, by decide, by decide, by decide +kernel⟩
theorem cl_X1_listAll : Cal yX1_listAll cX1_listAll 6 none 1 := ⟨wc_X1_listAll, wn_X1, by decide, by decide, by decide +kernel⟩
theorem cl_X0_handOn : Cal yX0_handOn cX0_handOn 3 none 1 := ⟨wc_X0_handOn, wn_X0, by decide, by decide, by decide +kernel⟩
theorem cl_X4_tableTo : Cal yX4_tableTo cX4_tableTo 5 (some (.object "DishLines$Distances")) 2 := ⟨wc_X4_tableTo, wn_X4, by decide, by decide, by decide +kernel⟩
theorem cl_X2_spread : Cal yX2_spread cX2_spread 8 none 2 := ⟨wc_X2_spread, wn_X2, by decide, by decide, by decide +kernel⟩
theorem cl_X1_lowestMade : Cal yX1_lowestMade cX1_lowestMade 7 (some .int) 3 := ⟨wc_X1_lowestMade, wn_X1, by decide, by decide, by decide +kernel⟩
theorem cl_X11_giveBirth : Cal yX11_giveBirth cX11_giveBirth 6 (some .int) 4 := ⟨wc_X11_giveBirth, wn_X11, by decide, by decide, by decide +kernel⟩
theorem cl_X1_hasMade : Cal yX1_hasMade cX1_hasMade 3 (some .boolean) 1 := ⟨wc_X1_hasMade, wn_X1, by decide, by decide, by decide +kernel⟩
theorem cl_X1_madeBy : Cal yX1_madeBy cX1_madeBy 4 (some .int) 1 := ⟨wc_X1_madeBy, wn_X1, by decide, by decide, by decide +kernel⟩
theorem cl_X11_turnYear : Cal yX11_turnYear cX11_turnYear 2 (some .int) 1 := ⟨wc_X11_turnYear, wn_X11, by decide, by decide, by decide +kernel⟩
theorem cl_X4_addFrom : Cal yX4_addFrom cX4_addFrom 3 none 1 := ⟨wc_X4_addFrom, wn_X4, by decide, by decide, by decide +kernel⟩
theorem cl_X4_findLeast : Cal yX4_findLeast cX4_findLeast 3 none 0 := ⟨wc_X4_findLeast, wn_X4, by decide, by decide, by decide +kernel⟩
theorem cl_X10_daughtersOf : Cal yX10_daughtersOf cX10_daughtersOf 4 (some .int) 1 := ⟨wc_X10_daughtersOf, wn_X10, by decide, by decide, by decide +kernel⟩
theorem cl_X4_stepsFrom : Cal yX4_stepsFrom cX4_stepsFrom 5 (some .int) 3 := ⟨wc_X4_stepsFrom, wn_X4, by decide, by decide, by decide +kernel⟩
theorem cl_X10_changedBack : Cal yX10_changedBack cX10_changedBack 4 (some .int) 1 := ⟨wc_X10_changedBack, wn_X10, by decide, by decide, by decide +kernel⟩
theorem cl_X4_seekFirst : Cal yX4_seekFirst cX4_seekFirst 4 none 1 := ⟨wc_X4_seekFirst, wn_X4, by decide, by decide, by decide +kernel⟩
theorem cl_X11_keepsCustom : Cal yX11_keepsCustom cX11_keepsCustom 3 (some .boolean) 1 := ⟨wc_X11_keepsCustom, wn_X11, by decide, by decide, by decide +kernel⟩
theorem cl_X0_work : Cal yX0_work cX0_work 5 (some .boolean) 2 := ⟨wc_X0_work, wn_X0, by decide, by decide, by decide +kernel⟩
theorem cl_X0_likeliest : Cal yX0_likeliest cX0_likeliest 3 (some .int) 0 := ⟨wc_X0_likeliest, wn_X0, by decide, by decide, by decide +kernel⟩
theorem cl_X5_workFewest : Cal yX5_workFewest cX5_workFewest 4 none 0 := ⟨wc_X5_workFewest, wn_X5, by decide, by decide, by decide +kernel⟩
theorem cl_X5_workFloor : Cal yX5_workFloor cX5_workFloor 4 none 0 := ⟨wc_X5_workFloor, wn_X5, by decide, by decide, by decide +kernel⟩
theorem cl_X5_isOf : Cal yX5_isOf cX5_isOf 3 (some .boolean) 2 := ⟨wc_X5_isOf, wn_X5, by decide, by decide, by decide +kernel⟩
theorem cl_X5_bestMother : Cal yX5_bestMother cX5_bestMother 2 (some .int) 1 := ⟨wc_X5_bestMother, wn_X5, by decide, by decide, by decide +kernel⟩
theorem cl_X5_take : Cal yX5_take cX5_take 4 none 2 := ⟨wc_X5_take, wn_X5, by decide, by decide, by decide +kernel⟩
theorem cl_X5_setSteps : Cal yX5_setSteps cX5_setSteps 5 none 3 := ⟨wc_X5_setSteps, wn_X5, by decide, by decide, by decide +kernel⟩
theorem cl_X5_search : Cal yX5_search cX5_search 1 none 0 := ⟨wc_X5_search, wn_X5, by decide, by decide, by decide +kernel⟩
theorem cl_X12_nextSum : Cal yX12_nextSum cX12_nextSum 3 none 2 := ⟨wc_X12_nextSum, wn_X12, by decide, by decide, by decide +kernel⟩
theorem cl_X7_plain : Cal yX7_plain cX7_plain 4 (some .boolean) 1 := ⟨wc_X7_plain, wn_X7, by decide, by decide, by decide +kernel⟩
theorem cl_X9_aim : Cal yX9_aim cX9_aim 2 none 1 := ⟨wc_X9_aim, wn_X9, by decide, by decide, by decide +kernel⟩
theorem cl_X7_sumFor : Cal yX7_sumFor cX7_sumFor 2 (some .boolean) 1 := ⟨wc_X7_sumFor, wn_X7, by decide, by decide, by decide +kernel⟩
theorem cl_X7_test : Cal yX7_test cX7_test 4 (some .boolean) 1 := ⟨wc_X7_test, wn_X7, by decide, by decide, by decide +kernel⟩
theorem cl_X7_comparison : Cal yX7_comparison cX7_comparison 3 (some .boolean) 1 := ⟨wc_X7_comparison, wn_X7, by decide, by decide, by decide +kernel⟩
theorem cl_X7_inRound : Cal yX7_inRound cX7_inRound 2 (some .boolean) 1 := ⟨wc_X7_inRound, wn_X7, by decide, by decide, by decide +kernel⟩
theorem cl_X7_both : Cal yX7_both cX7_both 4 (some .boolean) 1 := ⟨wc_X7_both, wn_X7, by decide, by decide, by decide +kernel⟩
theorem cl_X12_makes : Cal yX12_makes cX12_makes 7 (some .int) 4 := ⟨wc_X12_makes, wn_X12, by decide, by decide, by decide +kernel⟩
theorem cl_X12_sets : Cal yX12_sets cX12_sets 5 none 4 := ⟨wc_X12_sets, wn_X12, by decide, by decide, by decide +kernel⟩
theorem cl_X12_tells : Cal yX12_tells cX12_tells 10 (some .int) 2 := ⟨wc_X12_tells, wn_X12, by decide, by decide, by decide +kernel⟩
theorem cl_X12_isPlace : Cal yX12_isPlace cX12_isPlace 1 (some .boolean) 1 := ⟨wc_X12_isPlace, wn_X12, by decide, by decide, by decide +kernel⟩
theorem cl_X12_changed : Cal yX12_changed cX12_changed 7 (some .int) 5 := ⟨wc_X12_changed, wn_X12, by decide, by decide, by decide +kernel⟩
theorem cl_X12_weighs : Cal yX12_weighs cX12_weighs 5 (some .int) 4 := ⟨wc_X12_weighs, wn_X12, by decide, by decide, by decide +kernel⟩
theorem cl_X12_readClause : Cal yX12_readClause cX12_readClause 1 none 0 := ⟨wc_X12_readClause, wn_X12, by decide, by decide, by decide +kernel⟩
theorem cl_X12_readOrder : Cal yX12_readOrder cX12_readOrder 1 none 0 := ⟨wc_X12_readOrder, wn_X12, by decide, by decide, by decide +kernel⟩
theorem cl_X12_bears : Cal yX12_bears cX12_bears 7 (some .int) 4 := ⟨wc_X12_bears, wn_X12, by decide, by decide, by decide +kernel⟩
theorem cl_X12_lists : Cal yX12_lists cX12_lists 9 none 3 := ⟨wc_X12_lists, wn_X12, by decide, by decide, by decide +kernel⟩
theorem cl_X12_dishAt : Cal yX12_dishAt cX12_dishAt 7 (some .int) 1 := ⟨wc_X12_dishAt, wn_X12, by decide, by decide, by decide +kernel⟩
theorem cl_X12_placeOf : Cal yX12_placeOf cX12_placeOf 9 (some .int) 1 := ⟨wc_X12_placeOf, wn_X12, by decide, by decide, by decide +kernel⟩
theorem cl_X12_draws : Cal yX12_draws cX12_draws 2 (some .int) 1 := ⟨wc_X12_draws, wn_X12, by decide, by decide, by decide +kernel⟩
theorem cl_X12_small : Cal yX12_small cX12_small 2 (some .int) 1 := ⟨wc_X12_small, wn_X12, by decide, by decide, by decide +kernel⟩
theorem cl_X12_splits : Cal yX12_splits cX12_splits 6 none 1 := ⟨wc_X12_splits, wn_X12, by decide, by decide, by decide +kernel⟩
theorem cl_X12_readOne : Cal yX12_readOne cX12_readOne 1 none 0 := ⟨wc_X12_readOne, wn_X12, by decide, by decide, by decide +kernel⟩
theorem cl_X12_daughters : Cal yX12_daughters cX12_daughters 4 (some .int) 1 := ⟨wc_X12_daughters, wn_X12, by decide, by decide, by decide +kernel⟩
theorem cl_X12_stepsIn : Cal yX12_stepsIn cX12_stepsIn 9 (some .int) 3 := ⟨wc_X12_stepsIn, wn_X12, by decide, by decide, by decide +kernel⟩
theorem cl_X12_changedBack : Cal yX12_changedBack cX12_changedBack 4 (some .int) 1 := ⟨wc_X12_changedBack, wn_X12, by decide, by decide, by decide +kernel⟩
theorem cl_X12_leadsTo : Cal yX12_leadsTo cX12_leadsTo 5 (some .boolean) 3 := ⟨wc_X12_leadsTo, wn_X12, by decide, by decide, by decide +kernel⟩
theorem cl_X12_laysNext : Cal yX12_laysNext cX12_laysNext 3 none 0 := ⟨wc_X12_laysNext, wn_X12, by decide, by decide, by decide +kernel⟩
theorem cl_X12_measuresTo : Cal yX12_measuresTo cX12_measuresTo 7 none 1 := ⟨wc_X12_measuresTo, wn_X12, by decide, by decide, by decide +kernel⟩
theorem cl_X12_reads : Cal yX12_reads cX12_reads 2 (some .boolean) 0 := ⟨wc_X12_reads, wn_X12, by decide, by decide, by decide +kernel⟩
theorem cl_X12_lays : Cal yX12_lays cX12_lays 3 none 1 := ⟨wc_X12_lays, wn_X12, by decide, by decide, by decide +kernel⟩
theorem cl_X12_parts : Cal yX12_parts cX12_parts 7 none 2 := ⟨wc_X12_parts, wn_X12, by decide, by decide, by decide +kernel⟩
theorem cl_X12_goesAlong : Cal yX12_goesAlong cX12_goesAlong 4 none 2 := ⟨wc_X12_goesAlong, wn_X12, by decide, by decide, by decide +kernel⟩
theorem cl_X12_obeys : Cal yX12_obeys cX12_obeys 2 (some .int) 0 := ⟨wc_X12_obeys, wn_X12, by decide, by decide, by decide +kernel⟩
theorem cl_X12_measures : Cal yX12_measures cX12_measures 7 none 1 := ⟨wc_X12_measures, wn_X12, by decide, by decide, by decide +kernel⟩
theorem cl_X12_isTree : Cal yX12_isTree cX12_isTree 6 (some .boolean) 1 := ⟨wc_X12_isTree, wn_X12, by decide, by decide, by decide +kernel⟩
theorem cl_X12_runs : Cal yX12_runs cX12_runs 6 (some .int) 1 := ⟨wc_X12_runs, wn_X12, by decide, by decide, by decide +kernel⟩
theorem cl_X9_open : Cal yX9_open cX9_open 3 none 1 := ⟨wc_X9_open, wn_X9, by decide, by decide, by decide +kernel⟩
theorem cl_X7_condition : Cal yX7_condition cX7_condition 1 (some .boolean) 0 := ⟨wc_X7_condition, wn_X7, by decide, by decide, by decide +kernel⟩
theorem cl_X7_how : Cal yX7_how cX7_how 2 (some .boolean) 0 := ⟨wc_X7_how, wn_X7, by decide, by decide, by decide +kernel⟩
theorem cl_X9_clear : Cal yX9_clear cX9_clear 1 none 0 := ⟨wc_X9_clear, wn_X9, by decide, by decide, by decide +kernel⟩
theorem cl_X7_cutTokens : Cal yX7_cutTokens cX7_cutTokens 5 none 0 := ⟨wc_X7_cutTokens, wn_X7, by decide, by decide, by decide +kernel⟩
theorem cl_X7_lawClause : Cal yX7_lawClause cX7_lawClause 2 (some .boolean) 0 := ⟨wc_X7_lawClause, wn_X7, by decide, by decide, by decide +kernel⟩
theorem cl_X7_orderClause : Cal yX7_orderClause cX7_orderClause 2 (some .boolean) 0 := ⟨wc_X7_orderClause, wn_X7, by decide, by decide, by decide +kernel⟩
theorem cl_X7_read : Cal yX7_read cX7_read 3 (some .boolean) 1 := ⟨wc_X7_read, wn_X7, by decide, by decide, by decide +kernel⟩
theorem cl_X9_kept : Cal yX9_kept cX9_kept 2 (some (.object "DishLines$Text")) 0 := ⟨wc_X9_kept, wn_X9, by decide, by decide, by decide +kernel⟩
theorem cl_X10_addLaw : Cal yX10_addLaw cX10_addLaw 2 (some .int) 1 := ⟨wc_X10_addLaw, wn_X10, by decide, by decide, by decide +kernel⟩
theorem cl_X11_tellSteward : Cal yX11_tellSteward cX11_tellSteward 3 none 0 := ⟨wc_X11_tellSteward, wn_X11, by decide, by decide, by decide +kernel⟩
theorem cl_X11_runOnce : Cal yX11_runOnce cX11_runOnce 13 (some .int) 2 := ⟨wc_X11_runOnce, wn_X11, by decide, by decide, by decide +kernel⟩
