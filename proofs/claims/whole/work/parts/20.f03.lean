set_option maxRecDepth 100000 in
set_option maxHeartbeats 8000000 in
noncomputable def f_X12_init (M : Mem) (a0 : Nat) : Option Mem :=
  bv (nA M 14 (7 : Int32).toNatClampNeg) (fun M1 => grd (okO M1 12 a0) (bv (wR M1 a0 2 (some (mn M))) (fun M6 => bv (nA M6 14 (5666 : Int32).toNatClampNeg) (fun M10 => bv (wR M10 a0 3 (some (mn M6))) (fun M15 => bv (nA M15 14 (11332 : Int32).toNatClampNeg) (fun M19 => bv (wR M19 a0 4 (some (mn M15))) (fun M24 => bv (nA M24 17 (2 : Int32).toNatClampNeg) (fun M28 => bv (wR M28 a0 5 (some (mn M24))) (fun M33 => bv (nA M33 14 (7 : Int32).toNatClampNeg) (fun M37 => bv (wR M37 a0 6 (some (mn M33))) (fun M42 => bv (nA M42 14 (46 : Int32).toNatClampNeg) (fun M46 => bv (wR M46 a0 9 (some (mn M42))) (fun M51 => bv (nA M51 14 (46 : Int32).toNatClampNeg) (fun M55 => bv (wR M55 a0 10 (some (mn M51))) (fun M60 => bv (nA M60 13 (130 : Int32).toNatClampNeg) (fun M64 => grd (vp_in 0 (mL M64 (mn M60))) (bv (wI M64 (mn M60) (0 : Int32).toNatClampNeg (vp_nar .byte 119)) (fun M70 => grd (vp_in 1 (mL M70 (mn M60))) (bv (wI M70 (mn M60) (1 : Int32).toNatClampNeg (vp_nar .byte 101)) (fun M76 => grd (vp_in 2 (mL M76 (mn M60))) (bv (wI M76 (mn M60) (2 : Int32).toNatClampNeg (vp_nar .byte 105)) (fun M82 => grd (vp_in 3 (mL M82 (mn M60))) (bv (wI M82 (mn M60) (3 : Int32).toNatClampNeg (vp_nar .byte 103)) (fun M88 => grd (vp_in 4 (mL M88 (mn M60))) (bv (wI M88 (mn M60) (4 : Int32).toNatClampNeg (vp_nar .byte 104)) (fun M94 => grd (vp_in 5 (mL M94 (mn M60))) (bv (wI M94 (mn M60) (5 : Int32).toNatClampNeg (vp_nar .byte 115)) (fun M100 => grd (vp_in 6 (mL M100 (mn M60))) (bv (wI M100 (mn M60) (6 : Int32).toNatClampNeg (vp_nar .byte 32)) (fun M106 => grd (vp_in 7 (mL M106 (mn M60))) (bv (wI M106 (mn M60) (7 : Int32).toNatClampNeg (vp_nar .byte 98)) (fun M112 => grd (vp_in 8 (mL M112 (mn M60))) (bv (wI M112 (mn M60) (8 : Int32).toNatClampNeg (vp_nar .byte 97)) (fun M118 => grd (vp_in 9 (mL M118 (mn M60))) (bv (wI M118 (mn M60) (9 : Int32).toNatClampNeg (vp_nar .byte 114)) (fun M124 => grd (vp_in 10 (mL M124 (mn M60))) (bv (wI M124 (mn M60) (10 : Int32).toNatClampNeg (vp_nar .byte 115)) (fun M130 => grd (vp_in 11 (mL M130 (mn M60))) (bv (wI M130 (mn M60) (11 : Int32).toNatClampNeg (vp_nar .byte 32)) (fun M136 => grd (vp_in 12 (mL M136 (mn M60))) (bv (wI M136 (mn M60) (12 : Int32).toNatClampNeg (vp_nar .byte 105)) (fun M142 => grd (vp_in 13 (mL M142 (mn M60))) (bv (wI M142 (mn M60) (13 : Int32).toNatClampNeg (vp_nar .byte 102)) (fun M148 => grd (vp_in 14 (mL M148 (mn M60))) (bv (wI M148 (mn M60) (14 : Int32).toNatClampNeg (vp_nar .byte 32)) (fun M154 => grd (vp_in 15 (mL M154 (mn M60))) (bv (wI M154 (mn M60) (15 : Int32).toNatClampNeg (vp_nar .byte 111)) (fun M160 => grd (vp_in 16 (mL M160 (mn M60))) (bv (wI M160 (mn M60) (16 : Int32).toNatClampNeg (vp_nar .byte 114)) (fun M166 => grd (vp_in 17 (mL M166 (mn M60))) (bv (wI M166 (mn M60) (17 : Int32).toNatClampNeg (vp_nar .byte 32)) (fun M172 => grd (vp_in 18 (mL M172 (mn M60))) (bv (wI M172 (mn M60) (18 : Int32).toNatClampNeg (vp_nar .byte 97)) (fun M178 => grd (vp_in 19 (mL M178 (mn M60))) (bv (wI M178 (mn M60) (19 : Int32).toNatClampNeg (vp_nar .byte 110)) (fun M184 => grd (vp_in 20 (mL M184 (mn M60))) (bv (wI M184 (mn M60) (20 : Int32).toNatClampNeg (vp_nar .byte 100)) (fun M190 => grd (vp_in 21 (mL M190 (mn M60))) (bv (wI M190 (mn M60) (21 : Int32).toNatClampNeg (vp_nar .byte 32)) (fun M196 => grd (vp_in 22 (mL M196 (mn M60))) (bv (wI M196 (mn M60) (22 : Int32).toNatClampNeg (vp_nar .byte 110)) (fun M202 => grd (vp_in 23 (mL M202 (mn M60))) (bv (wI M202 (mn M60) (23 : Int32).toNatClampNeg (vp_nar .byte 111)) (fun M208 => grd (vp_in 24 (mL M208 (mn M60))) (bv (wI M208 (mn M60) (24 : Int32).toNatClampNeg (vp_nar .byte 116)) (fun M214 => grd (vp_in 25 (mL M214 (mn M60))) (bv (wI M214 (mn M60) (25 : Int32).toNatClampNeg (vp_nar .byte 32)) (fun M220 => grd (vp_in 26 (mL M220 (mn M60))) (bv (wI M220 (mn M60) (26 : Int32).toNatClampNeg (vp_nar .byte 115)) (fun M226 => grd (vp_in 27 (mL M226 (mn M60))) (bv (wI M226 (mn M60) (27 : Int32).toNatClampNeg (vp_nar .byte 111)) (fun M232 => grd (vp_in 28 (mL M232 (mn M60))) (bv (wI M232 (mn M60) (28 : Int32).toNatClampNeg (vp_nar .byte 114)) (fun M238 => grd (vp_in 29 (mL M238 (mn M60))) (bv (wI M238 (mn M60) (29 : Int32).toNatClampNeg (vp_nar .byte 116)) (fun M244 => grd (vp_in 30 (mL M244 (mn M60))) (bv (wI M244 (mn M60) (30 : Int32).toNatClampNeg (vp_nar .byte 32)) (fun M250 => grd (vp_in 31 (mL M250 (mn M60))) (bv (wI M250 (mn M60) (31 : Int32).toNatClampNeg (vp_nar .byte 116)) (fun M256 => grd (vp_in 32 (mL M256 (mn M60))) (bv (wI M256 (mn M60) (32 : Int32).toNatClampNeg (vp_nar .byte 104)) (fun M262 => grd (vp_in 33 (mL M262 (mn M60))) (bv (wI M262 (mn M60) (33 : Int32).toNatClampNeg (vp_nar .byte 105)) (fun M268 => grd (vp_in 34 (mL M268 (mn M60))) (bv (wI M268 (mn M60) (34 : Int32).toNatClampNeg (vp_nar .byte 110)) (fun M274 => grd (vp_in 35 (mL M274 (mn M60))) (bv (wI M274 (mn M60) (35 : Int32).toNatClampNeg (vp_nar .byte 103)) (fun M280 => grd (vp_in 36 (mL M280 (mn M60))) (bv (wI M280 (mn M60) (36 : Int32).toNatClampNeg (vp_nar .byte 32)) (fun M286 => grd (vp_in 37 (mL M286 (mn M60))) (bv (wI M286 (mn M60) (37 : Int32).toNatClampNeg (vp_nar .byte 112)) (fun M292 => grd (vp_in 38 (mL M292 (mn M60))) (bv (wI M292 (mn M60) (38 : Int32).toNatClampNeg (vp_nar .byte 108)) (fun M298 => grd (vp_in 39 (mL M298 (mn M60))) (bv (wI M298 (mn M60) (39 : Int32).toNatClampNeg (vp_nar .byte 97)) (fun M304 => grd (vp_in 40 (mL M304 (mn M60))) (bv (wI M304 (mn M60) (40 : Int32).toNatClampNeg (vp_nar .byte 99)) (fun M310 => grd (vp_in 41 (mL M310 (mn M60))) (bv (wI M310 (mn M60) (41 : Int32).toNatClampNeg (vp_nar .byte 101)) (fun M316 => grd (vp_in 42 (mL M316 (mn M60))) (bv (wI M316 (mn M60) (42 : Int32).toNatClampNeg (vp_nar .byte 32)) (fun M322 => grd (vp_in 43 (mL M322 (mn M60))) (bv (wI M322 (mn M60) (43 : Int32).toNatClampNeg (vp_nar .byte 108)) (fun M328 => grd (vp_in 44 (mL M328 (mn M60))) (bv (wI M328 (mn M60) (44 : Int32).toNatClampNeg (vp_nar .byte 111)) (fun M334 => grd (vp_in 45 (mL M334 (mn M60))) (bv (wI M334 (mn M60) (45 : Int32).toNatClampNeg (vp_nar .byte 110)) (fun M340 => grd (vp_in 46 (mL M340 (mn M60))) (bv (wI M340 (mn M60) (46 : Int32).toNatClampNeg (vp_nar .byte 103)) (fun M346 => grd (vp_in 47 (mL M346 (mn M60))) (bv (wI M346 (mn M60) (47 : Int32).toNatClampNeg (vp_nar .byte 32)) (fun M352 => grd (vp_in 48 (mL M352 (mn M60))) (bv (wI M352 (mn M60) (48 : Int32).toNatClampNeg (vp_nar .byte 104)) (fun M358 => grd (vp_in 49 (mL M358 (mn M60))) (bv (wI M358 (mn M60) (49 : Int32).toNatClampNeg (vp_nar .byte 97)) (fun M364 => grd (vp_in 50 (mL M364 (mn M60))) (bv (wI M364 (mn M60) (50 : Int32).toNatClampNeg (vp_nar .byte 115)) (fun M370 => grd (vp_in 51 (mL M370 (mn M60))) (bv (wI M370 (mn M60) (51 : Int32).toNatClampNeg (vp_nar .byte 32)) (fun M376 => grd (vp_in 52 (mL M376 (mn M60))) (bv (wI M376 (mn M60) (52 : Int32).toNatClampNeg (vp_nar .byte 115)) (fun M382 => grd (vp_in 53 (mL M382 (mn M60))) (bv (wI M382 (mn M60) (53 : Int32).toNatClampNeg (vp_nar .byte 119)) (fun M388 => grd (vp_in 54 (mL M388 (mn M60))) (bv (wI M388 (mn M60) (54 : Int32).toNatClampNeg (vp_nar .byte 101)) (fun M394 => grd (vp_in 55 (mL M394 (mn M60))) (bv (wI M394 (mn M60) (55 : Int32).toNatClampNeg (vp_nar .byte 101)) (fun M400 => grd (vp_in 56 (mL M400 (mn M60))) (bv (wI M400 (mn M60) (56 : Int32).toNatClampNeg (vp_nar .byte 116)) (fun M406 => grd (vp_in 57 (mL M406 (mn M60))) (bv (wI M406 (mn M60) (57 : Int32).toNatClampNeg (vp_nar .byte 32)) (fun M412 => grd (vp_in 58 (mL M412 (mn M60))) (bv (wI M412 (mn M60) (58 : Int32).toNatClampNeg (vp_nar .byte 121)) (fun M418 => grd (vp_in 59 (mL M418 (mn M60))) (bv (wI M418 (mn M60) (59 : Int32).toNatClampNeg (vp_nar .byte 101)) (fun M424 => grd (vp_in 60 (mL M424 (mn M60))) (bv (wI M424 (mn M60) (60 : Int32).toNatClampNeg (vp_nar .byte 97)) (fun M430 => grd (vp_in 61 (mL M430 (mn M60))) (bv (wI M430 (mn M60) (61 : Int32).toNatClampNeg (vp_nar .byte 114)) (fun M436 => grd (vp_in 62 (mL M436 (mn M60))) (bv (wI M436 (mn M60) (62 : Int32).toNatClampNeg (vp_nar .byte 32)) (fun M442 => grd (vp_in 63 (mL M442 (mn M60))) (bv (wI M442 (mn M60) (63 : Int32).toNatClampNeg (vp_nar .byte 109)) (fun M448 => grd (vp_in 64 (mL M448 (mn M60))) (bv (wI M448 (mn M60) (64 : Int32).toNatClampNeg (vp_nar .byte 111)) (fun M454 => grd (vp_in 65 (mL M454 (mn M60))) (bv (wI M454 (mn M60) (65 : Int32).toNatClampNeg (vp_nar .byte 111)) (fun M460 => grd (vp_in 66 (mL M460 (mn M60))) (bv (wI M460 (mn M60) (66 : Int32).toNatClampNeg (vp_nar .byte 100)) (fun M466 => grd (vp_in 67 (mL M466 (mn M60))) (bv (wI M466 (mn M60) (67 : Int32).toNatClampNeg (vp_nar .byte 32)) (fun M472 => grd (vp_in 68 (mL M472 (mn M60))) (bv (wI M472 (mn M60) (68 : Int32).toNatClampNeg (vp_nar .byte 121)) (fun M478 => grd (vp_in 69 (mL M478 (mn M60))) (bv (wI M478 (mn M60) (69 : Int32).toNatClampNeg (vp_nar .byte 101)) (fun M484 => grd (vp_in 70 (mL M484 (mn M60))) (bv (wI M484 (mn M60) (70 : Int32).toNatClampNeg (vp_nar .byte 97)) (fun M490 => grd (vp_in 71 (mL M490 (mn M60))) (bv (wI M490 (mn M60) (71 : Int32).toNatClampNeg (vp_nar .byte 114)) (fun M496 => grd (vp_in 72 (mL M496 (mn M60))) (bv (wI M496 (mn M60) (72 : Int32).toNatClampNeg (vp_nar .byte 115)) (fun M502 => grd (vp_in 73 (mL M502 (mn M60))) (bv (wI M502 (mn M60) (73 : Int32).toNatClampNeg (vp_nar .byte 32)) (fun M508 => grd (vp_in 74 (mL M508 (mn M60))) (bv (wI M508 (mn M60) (74 : Int32).toNatClampNeg (vp_nar .byte 104)) (fun M514 => grd (vp_in 75 (mL M514 (mn M60))) (bv (wI M514 (mn M60) (75 : Int32).toNatClampNeg (vp_nar .byte 111)) (fun M520 => grd (vp_in 76 (mL M520 (mn M60))) (bv (wI M520 (mn M60) (76 : Int32).toNatClampNeg (vp_nar .byte 117)) (fun M526 => grd (vp_in 77 (mL M526 (mn M60))) (bv (wI M526 (mn M60) (77 : Int32).toNatClampNeg (vp_nar .byte 115)) (fun M532 => grd (vp_in 78 (mL M532 (mn M60))) (bv (wI M532 (mn M60) (78 : Int32).toNatClampNeg (vp_nar .byte 101)) (fun M538 => grd (vp_in 79 (mL M538 (mn M60))) (bv (wI M538 (mn M60) (79 : Int32).toNatClampNeg (vp_nar .byte 115)) (fun M544 => grd (vp_in 80 (mL M544 (mn M60))) (bv (wI M544 (mn M60) (80 : Int32).toNatClampNeg (vp_nar .byte 32)) (fun M550 => grd (vp_in 81 (mL M550 (mn M60))) (bv (wI M550 (mn M60) (81 : Int32).toNatClampNeg (vp_nar .byte 100)) (fun M556 => grd (vp_in 82 (mL M556 (mn M60))) (bv (wI M556 (mn M60) (82 : Int32).toNatClampNeg (vp_nar .byte 111)) (fun M562 => grd (vp_in 83 (mL M562 (mn M60))) (bv (wI M562 (mn M60) (83 : Int32).toNatClampNeg (vp_nar .byte 110)) (fun M568 => grd (vp_in 84 (mL M568 (mn M60))) (bv (wI M568 (mn M60) (84 : Int32).toNatClampNeg (vp_nar .byte 101)) (fun M574 => grd (vp_in 85 (mL M574 (mn M60))) (bv (wI M574 (mn M60) (85 : Int32).toNatClampNeg (vp_nar .byte 32)) (fun M580 => grd (vp_in 86 (mL M580 (mn M60))) (bv (wI M580 (mn M60) (86 : Int32).toNatClampNeg (vp_nar .byte 108)) (fun M586 => grd (vp_in 87 (mL M586 (mn M60))) (bv (wI M586 (mn M60) (87 : Int32).toNatClampNeg (vp_nar .byte 97)) (fun M592 => grd (vp_in 88 (mL M592 (mn M60))) (bv (wI M592 (mn M60) (88 : Int32).toNatClampNeg (vp_nar .byte 115)) (fun M598 => grd (vp_in 89 (mL M598 (mn M60))) (bv (wI M598 (mn M60) (89 : Int32).toNatClampNeg (vp_nar .byte 116)) (fun M604 => grd (vp_in 90 (mL M604 (mn M60))) (bv (wI M604 (mn M60) (90 : Int32).toNatClampNeg (vp_nar .byte 32)) (fun M610 => grd (vp_in 91 (mL M610 (mn M60))) (bv (wI M610 (mn M60) (91 : Int32).toNatClampNeg (vp_nar .byte 98)) (fun M616 => grd (vp_in 92 (mL M616 (mn M60))) (bv (wI M616 (mn M60) (92 : Int32).toNatClampNeg (vp_nar .byte 111)) (fun M622 => grd (vp_in 93 (mL M622 (mn M60))) (bv (wI M622 (mn M60) (93 : Int32).toNatClampNeg (vp_nar .byte 114)) (fun M628 => grd (vp_in 94 (mL M628 (mn M60))) (bv (wI M628 (mn M60) (94 : Int32).toNatClampNeg (vp_nar .byte 110)) (fun M634 => grd (vp_in 95 (mL M634 (mn M60))) (bv (wI M634 (mn M60) (95 : Int32).toNatClampNeg (vp_nar .byte 32)) (fun M640 => grd (vp_in 96 (mL M640 (mn M60))) (bv (wI M640 (mn M60) (96 : Int32).toNatClampNeg (vp_nar .byte 111)) (fun M646 => grd (vp_in 97 (mL M646 (mn M60))) (bv (wI M646 (mn M60) (97 : Int32).toNatClampNeg (vp_nar .byte 117)) (fun M652 => grd (vp_in 98 (mL M652 (mn M60))) (bv (wI M652 (mn M60) (98 : Int32).toNatClampNeg (vp_nar .byte 116)) (fun M658 => grd (vp_in 99 (mL M658 (mn M60))) (bv (wI M658 (mn M60) (99 : Int32).toNatClampNeg (vp_nar .byte 32)) (fun M664 => grd (vp_in 100 (mL M664 (mn M60))) (bv (wI M664 (mn M60) (100 : Int32).toNatClampNeg (vp_nar .byte 115)) (fun M670 => grd (vp_in 101 (mL M670 (mn M60))) (bv (wI M670 (mn M60) (101 : Int32).toNatClampNeg (vp_nar .byte 119)) (fun M676 => grd (vp_in 102 (mL M676 (mn M60))) (bv (wI M676 (mn M60) (102 : Int32).toNatClampNeg (vp_nar .byte 97)) (fun M682 => grd (vp_in 103 (mL M682 (mn M60))) (bv (wI M682 (mn M60) (103 : Int32).toNatClampNeg (vp_nar .byte 112)) (fun M688 => grd (vp_in 104 (mL M688 (mn M60))) (bv (wI M688 (mn M60) (104 : Int32).toNatClampNeg (vp_nar .byte 32)) (fun M694 => grd (vp_in 105 (mL M694 (mn M60))) (bv (wI M694 (mn M60) (105 : Int32).toNatClampNeg (vp_nar .byte 100)) (fun M700 => grd (vp_in 106 (mL M700 (mn M60))) (bv (wI M700 (mn M60) (106 : Int32).toNatClampNeg (vp_nar .byte 111)) (fun M706 => grd (vp_in 107 (mL M706 (mn M60))) (bv (wI M706 (mn M60) (107 : Int32).toNatClampNeg (vp_nar .byte 117)) (fun M712 => grd (vp_in 108 (mL M712 (mn M60))) (bv (wI M712 (mn M60) (108 : Int32).toNatClampNeg (vp_nar .byte 98)) (fun M718 => grd (vp_in 109 (mL M718 (mn M60))) (bv (wI M718 (mn M60) (109 : Int32).toNatClampNeg (vp_nar .byte 108)) (fun M724 => grd (vp_in 110 (mL M724 (mn M60))) (bv (wI M724 (mn M60) (110 : Int32).toNatClampNeg (vp_nar .byte 101)) (fun M730 => grd (vp_in 111 (mL M730 (mn M60))) (bv (wI M730 (mn M60) (111 : Int32).toNatClampNeg (vp_nar .byte 32)) (fun M736 => grd (vp_in 112 (mL M736 (mn M60))) (bv (wI M736 (mn M60) (112 : Int32).toNatClampNeg (vp_nar .byte 115)) (fun M742 => grd (vp_in 113 (mL M742 (mn M60))) (bv (wI M742 (mn M60) (113 : Int32).toNatClampNeg (vp_nar .byte 116)) (fun M748 => grd (vp_in 114 (mL M748 (mn M60))) (bv (wI M748 (mn M60) (114 : Int32).toNatClampNeg (vp_nar .byte 97)) (fun M754 => grd (vp_in 115 (mL M754 (mn M60))) (bv (wI M754 (mn M60) (115 : Int32).toNatClampNeg (vp_nar .byte 110)) (fun M760 => grd (vp_in 116 (mL M760 (mn M60))) (bv (wI M760 (mn M60) (116 : Int32).toNatClampNeg (vp_nar .byte 100)) (fun M766 => grd (vp_in 117 (mL M766 (mn M60))) (bv (wI M766 (mn M60) (117 : Int32).toNatClampNeg (vp_nar .byte 32)) (fun M772 => grd (vp_in 118 (mL M772 (mn M60))) (bv (wI M772 (mn M60) (118 : Int32).toNatClampNeg (vp_nar .byte 105)) (fun M778 => grd (vp_in 119 (mL M778 (mn M60))) (bv (wI M778 (mn M60) (119 : Int32).toNatClampNeg (vp_nar .byte 110)) (fun M784 => grd (vp_in 120 (mL M784 (mn M60))) (bv (wI M784 (mn M60) (120 : Int32).toNatClampNeg (vp_nar .byte 32)) (fun M790 => grd (vp_in 121 (mL M790 (mn M60))) (bv (wI M790 (mn M60) (121 : Int32).toNatClampNeg (vp_nar .byte 97)) (fun M796 => grd (vp_in 122 (mL M796 (mn M60))) (bv (wI M796 (mn M60) (122 : Int32).toNatClampNeg (vp_nar .byte 116)) (fun M802 => grd (vp_in 123 (mL M802 (mn M60))) (bv (wI M802 (mn M60) (123 : Int32).toNatClampNeg (vp_nar .byte 32)) (fun M808 => grd (vp_in 124 (mL M808 (mn M60))) (bv (wI M808 (mn M60) (124 : Int32).toNatClampNeg (vp_nar .byte 116)) (fun M814 => grd (vp_in 125 (mL M814 (mn M60))) (bv (wI M814 (mn M60) (125 : Int32).toNatClampNeg (vp_nar .byte 105)) (fun M820 => grd (vp_in 126 (mL M820 (mn M60))) (bv (wI M820 (mn M60) (126 : Int32).toNatClampNeg (vp_nar .byte 109)) (fun M826 => grd (vp_in 127 (mL M826 (mn M60))) (bv (wI M826 (mn M60) (127 : Int32).toNatClampNeg (vp_nar .byte 101)) (fun M832 => grd (vp_in 128 (mL M832 (mn M60))) (bv (wI M832 (mn M60) (128 : Int32).toNatClampNeg (vp_nar .byte 115)) (fun M838 => grd (vp_in 129 (mL M838 (mn M60))) (bv (wI M838 (mn M60) (129 : Int32).toNatClampNeg (vp_nar .byte 32)) (fun M844 => bv (wR M844 a0 13 (some (mn M60))) (fun M849 => bv (nA M849 13 (400 : Int32).toNatClampNeg) (fun M853 => bv (wR M853 a0 15 (some (mn M849))) (fun M858 => bv (nA M858 14 (5 : Int32).toNatClampNeg) (fun M862 => bv (wR M862 a0 16 (some (mn M858))) (fun M867 => bv (wI M867 a0 18 (-1)) (fun M871 => bv (nA M871 14 (401 : Int32).toNatClampNeg) (fun M875 => bv (wR M875 a0 19 (some (mn M871))) (fun M880 => bv (nA M880 14 (401 : Int32).toNatClampNeg) (fun M884 => bv (wR M884 a0 20 (some (mn M880))) (fun M889 => bv (nA M889 14 (401 : Int32).toNatClampNeg) (fun M893 => bv (wR M893 a0 21 (some (mn M889))) (fun M898 => bv (nA M898 14 (8 : Int32).toNatClampNeg) (fun M902 => bv (wR M902 a0 30 (some (mn M898))) (fun M907 => bv (nA M907 14 (4 : Int32).toNatClampNeg) (fun M911 => bv (wR M911 a0 31 (some (mn M907))) (fun M916 => bv (nA M916 14 (429226 : Int32).toNatClampNeg) (fun M920 => bv (wR M920 a0 32 (some (mn M916))) (fun M925 => bv (nA M925 14 (9331 : Int32).toNatClampNeg) (fun M929 => bv (wR M929 a0 33 (some (mn M925))) (fun M934 => bv (wI M934 a0 34 (-1)) (fun M938 => bv (nA M938 14 (9331 : Int32).toNatClampNeg) (fun M942 => bv (wR M942 a0 35 (some (mn M938))) (fun M947 => bv (nA M947 14 (9331 : Int32).toNatClampNeg) (fun M951 => bv (wR M951 a0 36 (some (mn M947))) (fun M956 => bv (nA M956 17 (9331 : Int32).toNatClampNeg) (fun M960 => bv (wR M960 a0 37 (some (mn M956))) (fun M965 => bv (nA M965 14 (46 : Int32).toNatClampNeg) (fun M969 => bv (wR M969 a0 38 (some (mn M965))) (fun M974 => bv (nA M974 14 (9331 : Int32).toNatClampNeg) (fun M978 => bv (wR M978 a0 39 (some (mn M974))) (fun M983 => bv (nA M983 14 (6 : Int32).toNatClampNeg) (fun M987 => bv (wR M987 a0 40 (some (mn M983))) (fun M992 => bv (nA M992 14 (36 : Int32).toNatClampNeg) (fun M996 => bv (wR M996 a0 41 (some (mn M992))) (fun M1001 => bv (nA M1001 14 (6 : Int32).toNatClampNeg) (fun M1005 => bv (wR M1005 a0 42 (some (mn M1001))) (fun M1010 => bv (nA M1010 14 (6 : Int32).toNatClampNeg) (fun M1014 => bv (wR M1014 a0 43 (some (mn M1010))) (fun M1019 => bv (nA M1019 15 (9331 : Int32).toNatClampNeg) (fun M1023 => bv (wR M1023 a0 44 (some (mn M1019))) (fun M1028 => bv (nA M1028 15 (9331 : Int32).toNatClampNeg) (fun M1032 => bv (wR M1032 a0 45 (some (mn M1028))) (fun M1037 => bv (wI M1037 a0 46 (-1)) (fun M1041 => bv (nA M1041 15 (3 : Int32).toNatClampNeg) (fun M1045 => bv (wR M1045 a0 55 (some (mn M1041))) (fun M1050 => bv (nA M1050 14 (61 : Int32).toNatClampNeg) (fun M1054 => bv (wR M1054 a0 56 (some (mn M1050))) (fun M1059 => bv (wI M1059 a0 57 (-1)) (fun M1063 => Option.bind (loopO (σ := Mem × Int32) (ρ := Mem) (fun s1067 => if 6 ≤ s1067.2 then (some (.inr s1067.1)) else (Option.bind (mR s1067.1 a0 3) (fun r1076 => grd (okO s1067.1 14 r1076) (grd (vp_in (6 + s1067.2) (mL s1067.1 r1076)) (bv (wI s1067.1 r1076 (6 + s1067.2).toNatClampNeg 1) (fun M1079 => Option.bind (mR M1079 a0 3) (fun r1083 => grd (okO M1079 14 r1083) (grd (vp_in (12 + s1067.2) (mL M1079 r1083)) (bv (wI M1079 r1083 (12 + s1067.2).toNatClampNeg (-1)) (fun M1086 => bv (s1067.2 + 1 : Int32) (fun x1090 => some (.inl (M1086, x1090))))))))))))) (M1063, 0)) (fun (x1074 : Mem) => Option.bind (mR x1074 a0 3) (fun r1092 => grd (okO x1074 14 r1092) (grd (vp_in 58 (mL x1074 r1092)) (bv (wI x1074 r1092 (58 : Int32).toNatClampNeg (-1)) (fun M1095 => some M1095))))))))))))))))))))))))))))))))))))))))))))))))))))))))))))))))))))))))))))))))))))))))))))))))))))))))))))))))))))))))))))))))))))))))))))))))))))))))))))))))))))))))))))))))))))))))))))))))))))))))))))))))))))))))))))))))))))))))))))))))))))))))))))))))))))))))))))))))))))))))))))))))))))))))))))))))))))))))))))))))))))))))))
abbrev Y_X12_init : Sta := (RX12, "<init>", cX12_init, 2, none, 1)
set_option maxRecDepth 100000 in
set_option maxHeartbeats 8000000 in
theorem t_X12_init {l : Launch} {G : Gh} {M : Mem} {a0 : Nat} {q : Mem} (h : f_X12_init M a0 = some q) : Ctr l G yX12_init Y_X12_init M [.ref (gh G + a0)] q (none) := by
  refine Ctr.of (Y := Y_X12_init) (L := [some (.ref (gh G + a0)), none]) (t := Option.bind (f_X12_init M a0) (fun q => some (q, (none : Option Value)))) (by decide) rfl rfl (nle rfl) (Lof_in 1 _ rfl) (fun X hG hl => ?_) (by rw [h]; rfl)
  subst hG
  subst hl
  unfold f_X12_init
  refine s_aload_n (pc := 0) 0 dX12_init_0 rfl rfl ?_
  refine s_obj (pc := 1) km_X12_14 wi_obj wc_obj (nle rfl) (nle rfl) dX12_init_1 ?_
  refine s_aload_n (pc := 4) 0 dX12_init_4 rfl rfl ?_
  refine s_bipush (pc := 5) 7 dX12_init_5 kb_7 ?_
  refine s_newa_int (pc := 7) (And.intro (by decide) (by decide)) dX12_init_7 wa_int (fun M1 hM2 => ?_)
  have h3 := le_nA hM2
  have o4 := ok_nA hM2
  refine s_grd (fun o5 => ?_)
  refine s_putrF (pc := 9) F_12 2 rfl o5 rfl rfl rfl rfl rfl dX12_init_9 kf_X12_7 (fun M6 hM7 => ?_)
  have h8 := le_wR hM7
  have o9 := h8.ok o5
  refine s_aload_n (pc := 12) 0 dX12_init_12 rfl rfl ?_
  refine s_sipush (pc := 13) 5666 dX12_init_13 ks_5666 ?_
  refine s_newa_int (pc := 16) (And.intro (by decide) (by decide)) dX12_init_16 wa_int (fun M10 hM11 => ?_)
  have h12 := le_nA hM11
  have o13 := h12.ok o9
  have o14 := ok_nA hM11
  refine s_putrF (pc := 18) F_12 3 rfl o13 rfl rfl rfl rfl rfl dX12_init_18 kf_X12_20 (fun M15 hM16 => ?_)
  have h17 := le_wR hM16
  have o18 := h17.ok o13
  refine s_aload_n (pc := 21) 0 dX12_init_21 rfl rfl ?_
  refine s_sipush (pc := 22) 11332 dX12_init_22 ks_11332 ?_
  refine s_newa_int (pc := 25) (And.intro (by decide) (by decide)) dX12_init_25 wa_int (fun M19 hM20 => ?_)
  have h21 := le_nA hM20
  have o22 := h21.ok o18
  have o23 := ok_nA hM20
  refine s_putrF (pc := 27) F_12 4 rfl o22 rfl rfl rfl rfl rfl dX12_init_27 kf_X12_23 (fun M24 hM25 => ?_)
  have h26 := le_wR hM25
  have o27 := h26.ok o22
  refine s_aload_n (pc := 30) 0 dX12_init_30 rfl rfl ?_
  refine s_iconst (pc := 31) 2 dX12_init_31 kc_2 ?_
  refine s_newa_bool (pc := 32) (And.intro (by decide) (by decide)) dX12_init_32 wa_boolean (fun M28 hM29 => ?_)
  have h30 := le_nA hM29
  have o31 := h30.ok o27
  have o32 := ok_nA hM29
  refine s_putrF (pc := 34) F_12 5 rfl o31 rfl rfl rfl rfl rfl dX12_init_34 kf_X12_26 (fun M33 hM34 => ?_)
  have h35 := le_wR hM34
  have o36 := h35.ok o31
  refine s_aload_n (pc := 37) 0 dX12_init_37 rfl rfl ?_
  refine s_bipush (pc := 38) 7 dX12_init_38 kb_7 ?_
  refine s_newa_int (pc := 40) (And.intro (by decide) (by decide)) dX12_init_40 wa_int (fun M37 hM38 => ?_)
  have h39 := le_nA hM38
  have o40 := h39.ok o36
  have o41 := ok_nA hM38
  refine s_putrF (pc := 42) F_12 6 rfl o40 rfl rfl rfl rfl rfl dX12_init_42 kf_X12_30 (fun M42 hM43 => ?_)
  have h44 := le_wR hM43
  have o45 := h44.ok o40
  refine s_aload_n (pc := 45) 0 dX12_init_45 rfl rfl ?_
  refine s_bipush (pc := 46) 46 dX12_init_46 kb_46 ?_
  refine s_newa_int (pc := 48) (And.intro (by decide) (by decide)) dX12_init_48 wa_int (fun M46 hM47 => ?_)
  have h48 := le_nA hM47
  have o49 := h48.ok o45
  have o50 := ok_nA hM47
  refine s_putrF (pc := 50) F_12 9 rfl o49 rfl rfl rfl rfl rfl dX12_init_50 kf_X12_33 (fun M51 hM52 => ?_)
  have h53 := le_wR hM52
  have o54 := h53.ok o49
  refine s_aload_n (pc := 53) 0 dX12_init_53 rfl rfl ?_
  refine s_bipush (pc := 54) 46 dX12_init_54 kb_46 ?_
  refine s_newa_int (pc := 56) (And.intro (by decide) (by decide)) dX12_init_56 wa_int (fun M55 hM56 => ?_)
  have h57 := le_nA hM56
  have o58 := h57.ok o54
  have o59 := ok_nA hM56
  refine s_putrF (pc := 58) F_12 10 rfl o58 rfl rfl rfl rfl rfl dX12_init_58 kf_X12_36 (fun M60 hM61 => ?_)
  have h62 := le_wR hM61
  have o63 := h62.ok o58
  refine s_aload_n (pc := 61) 0 dX12_init_61 rfl rfl ?_
  refine s_sipush (pc := 62) 130 dX12_init_62 ks_130 ?_
  refine s_newa_byte (pc := 65) (And.intro (by decide) (by decide)) dX12_init_65 wa_byte (fun M64 hM65 => ?_)
  have h66 := le_nA hM65
  have o67 := h66.ok o63
  have o68 := ok_nA hM65
  refine s_dup (pc := 67) dX12_init_67 rfl ?_
  refine s_iconst (pc := 68) 0 dX12_init_68 kc_0 ?_
  refine s_bipush (pc := 69) 119 dX12_init_69 kb_119 ?_
  refine s_grd (fun i69 => ?_)
  refine s_bast (pc := 71) o68 i69 dX12_init_71 (fun M70 hM71 => ?_)
  have h72 := le_wI hM71
  have o73 := h72.ok o67
  have o74 := h72.ok o68
  refine s_dup (pc := 72) dX12_init_72 rfl ?_
  refine s_iconst (pc := 73) 1 dX12_init_73 kc_1 ?_
  refine s_bipush (pc := 74) 101 dX12_init_74 kb_101 ?_
  refine s_grd (fun i75 => ?_)
  refine s_bast (pc := 76) o74 i75 dX12_init_76 (fun M76 hM77 => ?_)
  have h78 := le_wI hM77
  have o79 := h78.ok o73
  have o80 := h78.ok o74
  refine s_dup (pc := 77) dX12_init_77 rfl ?_
  refine s_iconst (pc := 78) 2 dX12_init_78 kc_2 ?_
  refine s_bipush (pc := 79) 105 dX12_init_79 kb_105 ?_
  refine s_grd (fun i81 => ?_)
  refine s_bast (pc := 81) o80 i81 dX12_init_81 (fun M82 hM83 => ?_)
  have h84 := le_wI hM83
  have o85 := h84.ok o79
  have o86 := h84.ok o80
  refine s_dup (pc := 82) dX12_init_82 rfl ?_
  refine s_iconst (pc := 83) 3 dX12_init_83 kc_3 ?_
  refine s_bipush (pc := 84) 103 dX12_init_84 kb_103 ?_
  refine s_grd (fun i87 => ?_)
  refine s_bast (pc := 86) o86 i87 dX12_init_86 (fun M88 hM89 => ?_)
  have h90 := le_wI hM89
  have o91 := h90.ok o85
  have o92 := h90.ok o86
  refine s_dup (pc := 87) dX12_init_87 rfl ?_
  refine s_iconst (pc := 88) 4 dX12_init_88 kc_4 ?_
  refine s_bipush (pc := 89) 104 dX12_init_89 kb_104 ?_
  refine s_grd (fun i93 => ?_)
  refine s_bast (pc := 91) o92 i93 dX12_init_91 (fun M94 hM95 => ?_)
  have h96 := le_wI hM95
  have o97 := h96.ok o91
  have o98 := h96.ok o92
  refine s_dup (pc := 92) dX12_init_92 rfl ?_
  refine s_iconst (pc := 93) 5 dX12_init_93 kc_5 ?_
  refine s_bipush (pc := 94) 115 dX12_init_94 kb_115 ?_
  refine s_grd (fun i99 => ?_)
  refine s_bast (pc := 96) o98 i99 dX12_init_96 (fun M100 hM101 => ?_)
  have h102 := le_wI hM101
  have o103 := h102.ok o97
  have o104 := h102.ok o98
  refine s_dup (pc := 97) dX12_init_97 rfl ?_
  refine s_bipush (pc := 98) 6 dX12_init_98 kb_6 ?_
  refine s_bipush (pc := 100) 32 dX12_init_100 kb_32 ?_
  refine s_grd (fun i105 => ?_)
  refine s_bast (pc := 102) o104 i105 dX12_init_102 (fun M106 hM107 => ?_)
  have h108 := le_wI hM107
  have o109 := h108.ok o103
  have o110 := h108.ok o104
  refine s_dup (pc := 103) dX12_init_103 rfl ?_
  refine s_bipush (pc := 104) 7 dX12_init_104 kb_7 ?_
  refine s_bipush (pc := 106) 98 dX12_init_106 kb_98 ?_
  refine s_grd (fun i111 => ?_)
  refine s_bast (pc := 108) o110 i111 dX12_init_108 (fun M112 hM113 => ?_)
  have h114 := le_wI hM113
  have o115 := h114.ok o109
  have o116 := h114.ok o110
  refine s_dup (pc := 109) dX12_init_109 rfl ?_
  refine s_bipush (pc := 110) 8 dX12_init_110 kb_8 ?_
  refine s_bipush (pc := 112) 97 dX12_init_112 kb_97 ?_
  refine s_grd (fun i117 => ?_)
  refine s_bast (pc := 114) o116 i117 dX12_init_114 (fun M118 hM119 => ?_)
  have h120 := le_wI hM119
  have o121 := h120.ok o115
  have o122 := h120.ok o116
  refine s_dup (pc := 115) dX12_init_115 rfl ?_
  refine s_bipush (pc := 116) 9 dX12_init_116 kb_9 ?_
  refine s_bipush (pc := 118) 114 dX12_init_118 kb_114 ?_
  refine s_grd (fun i123 => ?_)
  refine s_bast (pc := 120) o122 i123 dX12_init_120 (fun M124 hM125 => ?_)
  have h126 := le_wI hM125
  have o127 := h126.ok o121
  have o128 := h126.ok o122
  refine s_dup (pc := 121) dX12_init_121 rfl ?_
  refine s_bipush (pc := 122) 10 dX12_init_122 kb_10 ?_
  refine s_bipush (pc := 124) 115 dX12_init_124 kb_115 ?_
  refine s_grd (fun i129 => ?_)
  refine s_bast (pc := 126) o128 i129 dX12_init_126 (fun M130 hM131 => ?_)
  have h132 := le_wI hM131
  have o133 := h132.ok o127
  have o134 := h132.ok o128
  refine s_dup (pc := 127) dX12_init_127 rfl ?_
  refine s_bipush (pc := 128) 11 dX12_init_128 kb_11 ?_
  refine s_bipush (pc := 130) 32 dX12_init_130 kb_32 ?_
  refine s_grd (fun i135 => ?_)
  refine s_bast (pc := 132) o134 i135 dX12_init_132 (fun M136 hM137 => ?_)
  have h138 := le_wI hM137
  have o139 := h138.ok o133
  have o140 := h138.ok o134
  refine s_dup (pc := 133) dX12_init_133 rfl ?_
  refine s_bipush (pc := 134) 12 dX12_init_134 kb_12 ?_
  refine s_bipush (pc := 136) 105 dX12_init_136 kb_105 ?_
  refine s_grd (fun i141 => ?_)
  refine s_bast (pc := 138) o140 i141 dX12_init_138 (fun M142 hM143 => ?_)
  have h144 := le_wI hM143
  have o145 := h144.ok o139
  have o146 := h144.ok o140
  refine s_dup (pc := 139) dX12_init_139 rfl ?_
  refine s_bipush (pc := 140) 13 dX12_init_140 kb_13 ?_
  refine s_bipush (pc := 142) 102 dX12_init_142 kb_102 ?_
  refine s_grd (fun i147 => ?_)
  refine s_bast (pc := 144) o146 i147 dX12_init_144 (fun M148 hM149 => ?_)
  have h150 := le_wI hM149
  have o151 := h150.ok o145
  have o152 := h150.ok o146
  refine s_dup (pc := 145) dX12_init_145 rfl ?_
  refine s_bipush (pc := 146) 14 dX12_init_146 kb_14 ?_
  refine s_bipush (pc := 148) 32 dX12_init_148 kb_32 ?_
  refine s_grd (fun i153 => ?_)
  refine s_bast (pc := 150) o152 i153 dX12_init_150 (fun M154 hM155 => ?_)
  have h156 := le_wI hM155
  have o157 := h156.ok o151
  have o158 := h156.ok o152
  refine s_dup (pc := 151) dX12_init_151 rfl ?_
  refine s_bipush (pc := 152) 15 dX12_init_152 kb_15 ?_
  refine s_bipush (pc := 154) 111 dX12_init_154 kb_111 ?_
  refine s_grd (fun i159 => ?_)
  refine s_bast (pc := 156) o158 i159 dX12_init_156 (fun M160 hM161 => ?_)
  have h162 := le_wI hM161
  have o163 := h162.ok o157
  have o164 := h162.ok o158
  refine s_dup (pc := 157) dX12_init_157 rfl ?_
  refine s_bipush (pc := 158) 16 dX12_init_158 kb_16 ?_
  refine s_bipush (pc := 160) 114 dX12_init_160 kb_114 ?_
  refine s_grd (fun i165 => ?_)
  refine s_bast (pc := 162) o164 i165 dX12_init_162 (fun M166 hM167 => ?_)
  have h168 := le_wI hM167
  have o169 := h168.ok o163
  have o170 := h168.ok o164
  refine s_dup (pc := 163) dX12_init_163 rfl ?_
  refine s_bipush (pc := 164) 17 dX12_init_164 kb_17 ?_
  refine s_bipush (pc := 166) 32 dX12_init_166 kb_32 ?_
  refine s_grd (fun i171 => ?_)
  refine s_bast (pc := 168) o170 i171 dX12_init_168 (fun M172 hM173 => ?_)
  have h174 := le_wI hM173
  have o175 := h174.ok o169
  have o176 := h174.ok o170
  refine s_dup (pc := 169) dX12_init_169 rfl ?_
  refine s_bipush (pc := 170) 18 dX12_init_170 kb_18 ?_
  refine s_bipush (pc := 172) 97 dX12_init_172 kb_97 ?_
  refine s_grd (fun i177 => ?_)
  refine s_bast (pc := 174) o176 i177 dX12_init_174 (fun M178 hM179 => ?_)
  have h180 := le_wI hM179
  have o181 := h180.ok o175
  have o182 := h180.ok o176
  refine s_dup (pc := 175) dX12_init_175 rfl ?_
  refine s_bipush (pc := 176) 19 dX12_init_176 kb_19 ?_
  refine s_bipush (pc := 178) 110 dX12_init_178 kb_110 ?_
  refine s_grd (fun i183 => ?_)
  refine s_bast (pc := 180) o182 i183 dX12_init_180 (fun M184 hM185 => ?_)
  have h186 := le_wI hM185
  have o187 := h186.ok o181
  have o188 := h186.ok o182
  refine s_dup (pc := 181) dX12_init_181 rfl ?_
  refine s_bipush (pc := 182) 20 dX12_init_182 kb_20 ?_
  refine s_bipush (pc := 184) 100 dX12_init_184 kb_100 ?_
  refine s_grd (fun i189 => ?_)
  refine s_bast (pc := 186) o188 i189 dX12_init_186 (fun M190 hM191 => ?_)
  have h192 := le_wI hM191
  have o193 := h192.ok o187
  have o194 := h192.ok o188
  refine s_dup (pc := 187) dX12_init_187 rfl ?_
  refine s_bipush (pc := 188) 21 dX12_init_188 kb_21 ?_
  refine s_bipush (pc := 190) 32 dX12_init_190 kb_32 ?_
  refine s_grd (fun i195 => ?_)
  refine s_bast (pc := 192) o194 i195 dX12_init_192 (fun M196 hM197 => ?_)
  have h198 := le_wI hM197
  have o199 := h198.ok o193
  have o200 := h198.ok o194
  refine s_dup (pc := 193) dX12_init_193 rfl ?_
  refine s_bipush (pc := 194) 22 dX12_init_194 kb_22 ?_
  refine s_bipush (pc := 196) 110 dX12_init_196 kb_110 ?_
  refine s_grd (fun i201 => ?_)
  refine s_bast (pc := 198) o200 i201 dX12_init_198 (fun M202 hM203 => ?_)
  have h204 := le_wI hM203
  have o205 := h204.ok o199
  have o206 := h204.ok o200
  refine s_dup (pc := 199) dX12_init_199 rfl ?_
  refine s_bipush (pc := 200) 23 dX12_init_200 kb_23 ?_
  refine s_bipush (pc := 202) 111 dX12_init_202 kb_111 ?_
  refine s_grd (fun i207 => ?_)
  refine s_bast (pc := 204) o206 i207 dX12_init_204 (fun M208 hM209 => ?_)
  have h210 := le_wI hM209
  have o211 := h210.ok o205
  have o212 := h210.ok o206
  refine s_dup (pc := 205) dX12_init_205 rfl ?_
  refine s_bipush (pc := 206) 24 dX12_init_206 kb_24 ?_
  refine s_bipush (pc := 208) 116 dX12_init_208 kb_116 ?_
  refine s_grd (fun i213 => ?_)
  refine s_bast (pc := 210) o212 i213 dX12_init_210 (fun M214 hM215 => ?_)
  have h216 := le_wI hM215
  have o217 := h216.ok o211
  have o218 := h216.ok o212
  refine s_dup (pc := 211) dX12_init_211 rfl ?_
  refine s_bipush (pc := 212) 25 dX12_init_212 kb_25 ?_
  refine s_bipush (pc := 214) 32 dX12_init_214 kb_32 ?_
  refine s_grd (fun i219 => ?_)
  refine s_bast (pc := 216) o218 i219 dX12_init_216 (fun M220 hM221 => ?_)
  have h222 := le_wI hM221
  have o223 := h222.ok o217
  have o224 := h222.ok o218
  refine s_dup (pc := 217) dX12_init_217 rfl ?_
  refine s_bipush (pc := 218) 26 dX12_init_218 kb_26 ?_
  refine s_bipush (pc := 220) 115 dX12_init_220 kb_115 ?_
  refine s_grd (fun i225 => ?_)
  refine s_bast (pc := 222) o224 i225 dX12_init_222 (fun M226 hM227 => ?_)
  have h228 := le_wI hM227
  have o229 := h228.ok o223
  have o230 := h228.ok o224
  refine s_dup (pc := 223) dX12_init_223 rfl ?_
  refine s_bipush (pc := 224) 27 dX12_init_224 kb_27 ?_
  refine s_bipush (pc := 226) 111 dX12_init_226 kb_111 ?_
  refine s_grd (fun i231 => ?_)
  refine s_bast (pc := 228) o230 i231 dX12_init_228 (fun M232 hM233 => ?_)
  have h234 := le_wI hM233
  have o235 := h234.ok o229
  have o236 := h234.ok o230
  refine s_dup (pc := 229) dX12_init_229 rfl ?_
  refine s_bipush (pc := 230) 28 dX12_init_230 kb_28 ?_
  refine s_bipush (pc := 232) 114 dX12_init_232 kb_114 ?_
  refine s_grd (fun i237 => ?_)
  refine s_bast (pc := 234) o236 i237 dX12_init_234 (fun M238 hM239 => ?_)
  have h240 := le_wI hM239
  have o241 := h240.ok o235
  have o242 := h240.ok o236
  refine s_dup (pc := 235) dX12_init_235 rfl ?_
  refine s_bipush (pc := 236) 29 dX12_init_236 kb_29 ?_
  refine s_bipush (pc := 238) 116 dX12_init_238 kb_116 ?_
  refine s_grd (fun i243 => ?_)
  refine s_bast (pc := 240) o242 i243 dX12_init_240 (fun M244 hM245 => ?_)
  have h246 := le_wI hM245
  have o247 := h246.ok o241
  have o248 := h246.ok o242
  refine s_dup (pc := 241) dX12_init_241 rfl ?_
  refine s_bipush (pc := 242) 30 dX12_init_242 kb_30 ?_
  refine s_bipush (pc := 244) 32 dX12_init_244 kb_32 ?_
  refine s_grd (fun i249 => ?_)
  refine s_bast (pc := 246) o248 i249 dX12_init_246 (fun M250 hM251 => ?_)
  have h252 := le_wI hM251
  have o253 := h252.ok o247
  have o254 := h252.ok o248
  refine s_dup (pc := 247) dX12_init_247 rfl ?_
  refine s_bipush (pc := 248) 31 dX12_init_248 kb_31 ?_
  refine s_bipush (pc := 250) 116 dX12_init_250 kb_116 ?_
  refine s_grd (fun i255 => ?_)
  refine s_bast (pc := 252) o254 i255 dX12_init_252 (fun M256 hM257 => ?_)
  have h258 := le_wI hM257
  have o259 := h258.ok o253
  have o260 := h258.ok o254
  refine s_dup (pc := 253) dX12_init_253 rfl ?_
  refine s_bipush (pc := 254) 32 dX12_init_254 kb_32 ?_
  refine s_bipush (pc := 256) 104 dX12_init_256 kb_104 ?_
  refine s_grd (fun i261 => ?_)
  refine s_bast (pc := 258) o260 i261 dX12_init_258 (fun M262 hM263 => ?_)
  have h264 := le_wI hM263
  have o265 := h264.ok o259
  have o266 := h264.ok o260
  refine s_dup (pc := 259) dX12_init_259 rfl ?_
  refine s_bipush (pc := 260) 33 dX12_init_260 kb_33 ?_
  refine s_bipush (pc := 262) 105 dX12_init_262 kb_105 ?_
  refine s_grd (fun i267 => ?_)
  refine s_bast (pc := 264) o266 i267 dX12_init_264 (fun M268 hM269 => ?_)
  have h270 := le_wI hM269
  have o271 := h270.ok o265
  have o272 := h270.ok o266
  refine s_dup (pc := 265) dX12_init_265 rfl ?_
  refine s_bipush (pc := 266) 34 dX12_init_266 kb_34 ?_
  refine s_bipush (pc := 268) 110 dX12_init_268 kb_110 ?_
  refine s_grd (fun i273 => ?_)
  refine s_bast (pc := 270) o272 i273 dX12_init_270 (fun M274 hM275 => ?_)
  have h276 := le_wI hM275
  have o277 := h276.ok o271
  have o278 := h276.ok o272
  refine s_dup (pc := 271) dX12_init_271 rfl ?_
  refine s_bipush (pc := 272) 35 dX12_init_272 kb_35 ?_
  refine s_bipush (pc := 274) 103 dX12_init_274 kb_103 ?_
  refine s_grd (fun i279 => ?_)
  refine s_bast (pc := 276) o278 i279 dX12_init_276 (fun M280 hM281 => ?_)
  have h282 := le_wI hM281
  have o283 := h282.ok o277
  have o284 := h282.ok o278
  refine s_dup (pc := 277) dX12_init_277 rfl ?_
  refine s_bipush (pc := 278) 36 dX12_init_278 kb_36 ?_
  refine s_bipush (pc := 280) 32 dX12_init_280 kb_32 ?_
  refine s_grd (fun i285 => ?_)
  refine s_bast (pc := 282) o284 i285 dX12_init_282 (fun M286 hM287 => ?_)
  have h288 := le_wI hM287
  have o289 := h288.ok o283
  have o290 := h288.ok o284
  refine s_dup (pc := 283) dX12_init_283 rfl ?_
  refine s_bipush (pc := 284) 37 dX12_init_284 kb_37 ?_
  refine s_bipush (pc := 286) 112 dX12_init_286 kb_112 ?_
  refine s_grd (fun i291 => ?_)
  refine s_bast (pc := 288) o290 i291 dX12_init_288 (fun M292 hM293 => ?_)
  have h294 := le_wI hM293
  have o295 := h294.ok o289
  have o296 := h294.ok o290
  refine s_dup (pc := 289) dX12_init_289 rfl ?_
  refine s_bipush (pc := 290) 38 dX12_init_290 kb_38 ?_
  refine s_bipush (pc := 292) 108 dX12_init_292 kb_108 ?_
  refine s_grd (fun i297 => ?_)
  refine s_bast (pc := 294) o296 i297 dX12_init_294 (fun M298 hM299 => ?_)
  have h300 := le_wI hM299
  have o301 := h300.ok o295
  have o302 := h300.ok o296
  refine s_dup (pc := 295) dX12_init_295 rfl ?_
  refine s_bipush (pc := 296) 39 dX12_init_296 kb_39 ?_
  refine s_bipush (pc := 298) 97 dX12_init_298 kb_97 ?_
  refine s_grd (fun i303 => ?_)
  refine s_bast (pc := 300) o302 i303 dX12_init_300 (fun M304 hM305 => ?_)
  have h306 := le_wI hM305
  have o307 := h306.ok o301
  have o308 := h306.ok o302
  refine s_dup (pc := 301) dX12_init_301 rfl ?_
  refine s_bipush (pc := 302) 40 dX12_init_302 kb_40 ?_
  refine s_bipush (pc := 304) 99 dX12_init_304 kb_99 ?_
  refine s_grd (fun i309 => ?_)
  refine s_bast (pc := 306) o308 i309 dX12_init_306 (fun M310 hM311 => ?_)
  have h312 := le_wI hM311
  have o313 := h312.ok o307
  have o314 := h312.ok o308
  refine s_dup (pc := 307) dX12_init_307 rfl ?_
  refine s_bipush (pc := 308) 41 dX12_init_308 kb_41 ?_
  refine s_bipush (pc := 310) 101 dX12_init_310 kb_101 ?_
  refine s_grd (fun i315 => ?_)
  refine s_bast (pc := 312) o314 i315 dX12_init_312 (fun M316 hM317 => ?_)
  have h318 := le_wI hM317
  have o319 := h318.ok o313
  have o320 := h318.ok o314
  refine s_dup (pc := 313) dX12_init_313 rfl ?_
  refine s_bipush (pc := 314) 42 dX12_init_314 kb_42 ?_
  refine s_bipush (pc := 316) 32 dX12_init_316 kb_32 ?_
  refine s_grd (fun i321 => ?_)
  refine s_bast (pc := 318) o320 i321 dX12_init_318 (fun M322 hM323 => ?_)
  have h324 := le_wI hM323
  have o325 := h324.ok o319
  have o326 := h324.ok o320
  refine s_dup (pc := 319) dX12_init_319 rfl ?_
  refine s_bipush (pc := 320) 43 dX12_init_320 kb_43 ?_
  refine s_bipush (pc := 322) 108 dX12_init_322 kb_108 ?_
  refine s_grd (fun i327 => ?_)
  refine s_bast (pc := 324) o326 i327 dX12_init_324 (fun M328 hM329 => ?_)
  have h330 := le_wI hM329
  have o331 := h330.ok o325
  have o332 := h330.ok o326
  refine s_dup (pc := 325) dX12_init_325 rfl ?_
  refine s_bipush (pc := 326) 44 dX12_init_326 kb_44 ?_
  refine s_bipush (pc := 328) 111 dX12_init_328 kb_111 ?_
  refine s_grd (fun i333 => ?_)
  refine s_bast (pc := 330) o332 i333 dX12_init_330 (fun M334 hM335 => ?_)
  have h336 := le_wI hM335
  have o337 := h336.ok o331
  have o338 := h336.ok o332
  refine s_dup (pc := 331) dX12_init_331 rfl ?_
  refine s_bipush (pc := 332) 45 dX12_init_332 kb_45 ?_
  refine s_bipush (pc := 334) 110 dX12_init_334 kb_110 ?_
  refine s_grd (fun i339 => ?_)
  refine s_bast (pc := 336) o338 i339 dX12_init_336 (fun M340 hM341 => ?_)
  have h342 := le_wI hM341
  have o343 := h342.ok o337
  have o344 := h342.ok o338
  refine s_dup (pc := 337) dX12_init_337 rfl ?_
  refine s_bipush (pc := 338) 46 dX12_init_338 kb_46 ?_
  refine s_bipush (pc := 340) 103 dX12_init_340 kb_103 ?_
  refine s_grd (fun i345 => ?_)
  refine s_bast (pc := 342) o344 i345 dX12_init_342 (fun M346 hM347 => ?_)
  have h348 := le_wI hM347
  have o349 := h348.ok o343
  have o350 := h348.ok o344
  refine s_dup (pc := 343) dX12_init_343 rfl ?_
  refine s_bipush (pc := 344) 47 dX12_init_344 kb_47 ?_
  refine s_bipush (pc := 346) 32 dX12_init_346 kb_32 ?_
  refine s_grd (fun i351 => ?_)
  refine s_bast (pc := 348) o350 i351 dX12_init_348 (fun M352 hM353 => ?_)
  have h354 := le_wI hM353
  have o355 := h354.ok o349
  have o356 := h354.ok o350
  refine s_dup (pc := 349) dX12_init_349 rfl ?_
  refine s_bipush (pc := 350) 48 dX12_init_350 kb_48 ?_
  refine s_bipush (pc := 352) 104 dX12_init_352 kb_104 ?_
  refine s_grd (fun i357 => ?_)
  refine s_bast (pc := 354) o356 i357 dX12_init_354 (fun M358 hM359 => ?_)
  have h360 := le_wI hM359
  have o361 := h360.ok o355
  have o362 := h360.ok o356
  refine s_dup (pc := 355) dX12_init_355 rfl ?_
  refine s_bipush (pc := 356) 49 dX12_init_356 kb_49 ?_
  refine s_bipush (pc := 358) 97 dX12_init_358 kb_97 ?_
  refine s_grd (fun i363 => ?_)
  refine s_bast (pc := 360) o362 i363 dX12_init_360 (fun M364 hM365 => ?_)
  have h366 := le_wI hM365
  have o367 := h366.ok o361
  have o368 := h366.ok o362
  refine s_dup (pc := 361) dX12_init_361 rfl ?_
  refine s_bipush (pc := 362) 50 dX12_init_362 kb_50 ?_
  refine s_bipush (pc := 364) 115 dX12_init_364 kb_115 ?_
  refine s_grd (fun i369 => ?_)
  refine s_bast (pc := 366) o368 i369 dX12_init_366 (fun M370 hM371 => ?_)
  have h372 := le_wI hM371
  have o373 := h372.ok o367
  have o374 := h372.ok o368
  refine s_dup (pc := 367) dX12_init_367 rfl ?_
  refine s_bipush (pc := 368) 51 dX12_init_368 kb_51 ?_
  refine s_bipush (pc := 370) 32 dX12_init_370 kb_32 ?_
  refine s_grd (fun i375 => ?_)
  refine s_bast (pc := 372) o374 i375 dX12_init_372 (fun M376 hM377 => ?_)
  have h378 := le_wI hM377
  have o379 := h378.ok o373
  have o380 := h378.ok o374
  refine s_dup (pc := 373) dX12_init_373 rfl ?_
  refine s_bipush (pc := 374) 52 dX12_init_374 kb_52 ?_
  refine s_bipush (pc := 376) 115 dX12_init_376 kb_115 ?_
  refine s_grd (fun i381 => ?_)
  refine s_bast (pc := 378) o380 i381 dX12_init_378 (fun M382 hM383 => ?_)
  have h384 := le_wI hM383
  have o385 := h384.ok o379
  have o386 := h384.ok o380
  refine s_dup (pc := 379) dX12_init_379 rfl ?_
  refine s_bipush (pc := 380) 53 dX12_init_380 kb_53 ?_
  refine s_bipush (pc := 382) 119 dX12_init_382 kb_119 ?_
  refine s_grd (fun i387 => ?_)
  refine s_bast (pc := 384) o386 i387 dX12_init_384 (fun M388 hM389 => ?_)
  have h390 := le_wI hM389
  have o391 := h390.ok o385
  have o392 := h390.ok o386
  refine s_dup (pc := 385) dX12_init_385 rfl ?_
  refine s_bipush (pc := 386) 54 dX12_init_386 kb_54 ?_
  refine s_bipush (pc := 388) 101 dX12_init_388 kb_101 ?_
  refine s_grd (fun i393 => ?_)
  refine s_bast (pc := 390) o392 i393 dX12_init_390 (fun M394 hM395 => ?_)
  have h396 := le_wI hM395
  have o397 := h396.ok o391
  have o398 := h396.ok o392
  refine s_dup (pc := 391) dX12_init_391 rfl ?_
  refine s_bipush (pc := 392) 55 dX12_init_392 kb_55 ?_
  refine s_bipush (pc := 394) 101 dX12_init_394 kb_101 ?_
  refine s_grd (fun i399 => ?_)
  refine s_bast (pc := 396) o398 i399 dX12_init_396 (fun M400 hM401 => ?_)
  have h402 := le_wI hM401
  have o403 := h402.ok o397
  have o404 := h402.ok o398
  refine s_dup (pc := 397) dX12_init_397 rfl ?_
  refine s_bipush (pc := 398) 56 dX12_init_398 kb_56 ?_
  refine s_bipush (pc := 400) 116 dX12_init_400 kb_116 ?_
  refine s_grd (fun i405 => ?_)
  refine s_bast (pc := 402) o404 i405 dX12_init_402 (fun M406 hM407 => ?_)
  have h408 := le_wI hM407
  have o409 := h408.ok o403
  have o410 := h408.ok o404
  refine s_dup (pc := 403) dX12_init_403 rfl ?_
  refine s_bipush (pc := 404) 57 dX12_init_404 kb_57 ?_
  refine s_bipush (pc := 406) 32 dX12_init_406 kb_32 ?_
  refine s_grd (fun i411 => ?_)
  refine s_bast (pc := 408) o410 i411 dX12_init_408 (fun M412 hM413 => ?_)
  have h414 := le_wI hM413
  have o415 := h414.ok o409
  have o416 := h414.ok o410
  refine s_dup (pc := 409) dX12_init_409 rfl ?_
  refine s_bipush (pc := 410) 58 dX12_init_410 kb_58 ?_
  refine s_bipush (pc := 412) 121 dX12_init_412 kb_121 ?_
  refine s_grd (fun i417 => ?_)
  refine s_bast (pc := 414) o416 i417 dX12_init_414 (fun M418 hM419 => ?_)
  have h420 := le_wI hM419
  have o421 := h420.ok o415
  have o422 := h420.ok o416
  refine s_dup (pc := 415) dX12_init_415 rfl ?_
  refine s_bipush (pc := 416) 59 dX12_init_416 kb_59 ?_
  refine s_bipush (pc := 418) 101 dX12_init_418 kb_101 ?_
  refine s_grd (fun i423 => ?_)
  refine s_bast (pc := 420) o422 i423 dX12_init_420 (fun M424 hM425 => ?_)
  have h426 := le_wI hM425
  have o427 := h426.ok o421
  have o428 := h426.ok o422
  refine s_dup (pc := 421) dX12_init_421 rfl ?_
  refine s_bipush (pc := 422) 60 dX12_init_422 kb_60 ?_
  refine s_bipush (pc := 424) 97 dX12_init_424 kb_97 ?_
  refine s_grd (fun i429 => ?_)
  refine s_bast (pc := 426) o428 i429 dX12_init_426 (fun M430 hM431 => ?_)
  have h432 := le_wI hM431
  have o433 := h432.ok o427
  have o434 := h432.ok o428
  refine s_dup (pc := 427) dX12_init_427 rfl ?_
  refine s_bipush (pc := 428) 61 dX12_init_428 kb_61 ?_
  refine s_bipush (pc := 430) 114 dX12_init_430 kb_114 ?_
  refine s_grd (fun i435 => ?_)
  refine s_bast (pc := 432) o434 i435 dX12_init_432 (fun M436 hM437 => ?_)
  have h438 := le_wI hM437
  have o439 := h438.ok o433
  have o440 := h438.ok o434
  refine s_dup (pc := 433) dX12_init_433 rfl ?_
  refine s_bipush (pc := 434) 62 dX12_init_434 kb_62 ?_
  refine s_bipush (pc := 436) 32 dX12_init_436 kb_32 ?_
  refine s_grd (fun i441 => ?_)
  refine s_bast (pc := 438) o440 i441 dX12_init_438 (fun M442 hM443 => ?_)
  have h444 := le_wI hM443
  have o445 := h444.ok o439
  have o446 := h444.ok o440
  refine s_dup (pc := 439) dX12_init_439 rfl ?_
  refine s_bipush (pc := 440) 63 dX12_init_440 kb_63 ?_
  refine s_bipush (pc := 442) 109 dX12_init_442 kb_109 ?_
  refine s_grd (fun i447 => ?_)
  refine s_bast (pc := 444) o446 i447 dX12_init_444 (fun M448 hM449 => ?_)
  have h450 := le_wI hM449
  have o451 := h450.ok o445
  have o452 := h450.ok o446
  refine s_dup (pc := 445) dX12_init_445 rfl ?_
  refine s_bipush (pc := 446) 64 dX12_init_446 kb_64 ?_
  refine s_bipush (pc := 448) 111 dX12_init_448 kb_111 ?_
  refine s_grd (fun i453 => ?_)
  refine s_bast (pc := 450) o452 i453 dX12_init_450 (fun M454 hM455 => ?_)
  have h456 := le_wI hM455
  have o457 := h456.ok o451
  have o458 := h456.ok o452
  refine s_dup (pc := 451) dX12_init_451 rfl ?_
  refine s_bipush (pc := 452) 65 dX12_init_452 kb_65 ?_
  refine s_bipush (pc := 454) 111 dX12_init_454 kb_111 ?_
  refine s_grd (fun i459 => ?_)
  refine s_bast (pc := 456) o458 i459 dX12_init_456 (fun M460 hM461 => ?_)
  have h462 := le_wI hM461
  have o463 := h462.ok o457
  have o464 := h462.ok o458
  refine s_dup (pc := 457) dX12_init_457 rfl ?_
  refine s_bipush (pc := 458) 66 dX12_init_458 kb_66 ?_
  refine s_bipush (pc := 460) 100 dX12_init_460 kb_100 ?_
  refine s_grd (fun i465 => ?_)
  refine s_bast (pc := 462) o464 i465 dX12_init_462 (fun M466 hM467 => ?_)
  have h468 := le_wI hM467
  have o469 := h468.ok o463
  have o470 := h468.ok o464
  refine s_dup (pc := 463) dX12_init_463 rfl ?_
  refine s_bipush (pc := 464) 67 dX12_init_464 kb_67 ?_
  refine s_bipush (pc := 466) 32 dX12_init_466 kb_32 ?_
  refine s_grd (fun i471 => ?_)
  refine s_bast (pc := 468) o470 i471 dX12_init_468 (fun M472 hM473 => ?_)
  have h474 := le_wI hM473
  have o475 := h474.ok o469
  have o476 := h474.ok o470
  refine s_dup (pc := 469) dX12_init_469 rfl ?_
  refine s_bipush (pc := 470) 68 dX12_init_470 kb_68 ?_
  refine s_bipush (pc := 472) 121 dX12_init_472 kb_121 ?_
  refine s_grd (fun i477 => ?_)
  refine s_bast (pc := 474) o476 i477 dX12_init_474 (fun M478 hM479 => ?_)
  have h480 := le_wI hM479
  have o481 := h480.ok o475
  have o482 := h480.ok o476
  refine s_dup (pc := 475) dX12_init_475 rfl ?_
  refine s_bipush (pc := 476) 69 dX12_init_476 kb_69 ?_
  refine s_bipush (pc := 478) 101 dX12_init_478 kb_101 ?_
  refine s_grd (fun i483 => ?_)
  refine s_bast (pc := 480) o482 i483 dX12_init_480 (fun M484 hM485 => ?_)
  have h486 := le_wI hM485
  have o487 := h486.ok o481
  have o488 := h486.ok o482
  refine s_dup (pc := 481) dX12_init_481 rfl ?_
  refine s_bipush (pc := 482) 70 dX12_init_482 kb_70 ?_
  refine s_bipush (pc := 484) 97 dX12_init_484 kb_97 ?_
  refine s_grd (fun i489 => ?_)
  refine s_bast (pc := 486) o488 i489 dX12_init_486 (fun M490 hM491 => ?_)
  have h492 := le_wI hM491
  have o493 := h492.ok o487
  have o494 := h492.ok o488
  refine s_dup (pc := 487) dX12_init_487 rfl ?_
  refine s_bipush (pc := 488) 71 dX12_init_488 kb_71 ?_
  refine s_bipush (pc := 490) 114 dX12_init_490 kb_114 ?_
  refine s_grd (fun i495 => ?_)
  refine s_bast (pc := 492) o494 i495 dX12_init_492 (fun M496 hM497 => ?_)
  have h498 := le_wI hM497
  have o499 := h498.ok o493
  have o500 := h498.ok o494
  refine s_dup (pc := 493) dX12_init_493 rfl ?_
  refine s_bipush (pc := 494) 72 dX12_init_494 kb_72 ?_
  refine s_bipush (pc := 496) 115 dX12_init_496 kb_115 ?_
  refine s_grd (fun i501 => ?_)
  refine s_bast (pc := 498) o500 i501 dX12_init_498 (fun M502 hM503 => ?_)
  have h504 := le_wI hM503
  have o505 := h504.ok o499
  have o506 := h504.ok o500
  refine s_dup (pc := 499) dX12_init_499 rfl ?_
  refine s_bipush (pc := 500) 73 dX12_init_500 kb_73 ?_
  refine s_bipush (pc := 502) 32 dX12_init_502 kb_32 ?_
  refine s_grd (fun i507 => ?_)
  refine s_bast (pc := 504) o506 i507 dX12_init_504 (fun M508 hM509 => ?_)
  have h510 := le_wI hM509
  have o511 := h510.ok o505
  have o512 := h510.ok o506
  refine s_dup (pc := 505) dX12_init_505 rfl ?_
  refine s_bipush (pc := 506) 74 dX12_init_506 kb_74 ?_
  refine s_bipush (pc := 508) 104 dX12_init_508 kb_104 ?_
  refine s_grd (fun i513 => ?_)
  refine s_bast (pc := 510) o512 i513 dX12_init_510 (fun M514 hM515 => ?_)
  have h516 := le_wI hM515
  have o517 := h516.ok o511
  have o518 := h516.ok o512
  refine s_dup (pc := 511) dX12_init_511 rfl ?_
  refine s_bipush (pc := 512) 75 dX12_init_512 kb_75 ?_
  refine s_bipush (pc := 514) 111 dX12_init_514 kb_111 ?_
  refine s_grd (fun i519 => ?_)
  refine s_bast (pc := 516) o518 i519 dX12_init_516 (fun M520 hM521 => ?_)
  have h522 := le_wI hM521
  have o523 := h522.ok o517
  have o524 := h522.ok o518
  refine s_dup (pc := 517) dX12_init_517 rfl ?_
  refine s_bipush (pc := 518) 76 dX12_init_518 kb_76 ?_
  refine s_bipush (pc := 520) 117 dX12_init_520 kb_117 ?_
  refine s_grd (fun i525 => ?_)
  refine s_bast (pc := 522) o524 i525 dX12_init_522 (fun M526 hM527 => ?_)
  have h528 := le_wI hM527
  have o529 := h528.ok o523
  have o530 := h528.ok o524
  refine s_dup (pc := 523) dX12_init_523 rfl ?_
  refine s_bipush (pc := 524) 77 dX12_init_524 kb_77 ?_
  refine s_bipush (pc := 526) 115 dX12_init_526 kb_115 ?_
  refine s_grd (fun i531 => ?_)
  refine s_bast (pc := 528) o530 i531 dX12_init_528 (fun M532 hM533 => ?_)
  have h534 := le_wI hM533
  have o535 := h534.ok o529
  have o536 := h534.ok o530
  refine s_dup (pc := 529) dX12_init_529 rfl ?_
  refine s_bipush (pc := 530) 78 dX12_init_530 kb_78 ?_
  refine s_bipush (pc := 532) 101 dX12_init_532 kb_101 ?_
  refine s_grd (fun i537 => ?_)
  refine s_bast (pc := 534) o536 i537 dX12_init_534 (fun M538 hM539 => ?_)
  have h540 := le_wI hM539
  have o541 := h540.ok o535
  have o542 := h540.ok o536
  refine s_dup (pc := 535) dX12_init_535 rfl ?_
  refine s_bipush (pc := 536) 79 dX12_init_536 kb_79 ?_
  refine s_bipush (pc := 538) 115 dX12_init_538 kb_115 ?_
  refine s_grd (fun i543 => ?_)
  refine s_bast (pc := 540) o542 i543 dX12_init_540 (fun M544 hM545 => ?_)
  have h546 := le_wI hM545
  have o547 := h546.ok o541
  have o548 := h546.ok o542
  refine s_dup (pc := 541) dX12_init_541 rfl ?_
  refine s_bipush (pc := 542) 80 dX12_init_542 kb_80 ?_
  refine s_bipush (pc := 544) 32 dX12_init_544 kb_32 ?_
  refine s_grd (fun i549 => ?_)
  refine s_bast (pc := 546) o548 i549 dX12_init_546 (fun M550 hM551 => ?_)
  have h552 := le_wI hM551
  have o553 := h552.ok o547
  have o554 := h552.ok o548
  refine s_dup (pc := 547) dX12_init_547 rfl ?_
  refine s_bipush (pc := 548) 81 dX12_init_548 kb_81 ?_
  refine s_bipush (pc := 550) 100 dX12_init_550 kb_100 ?_
  refine s_grd (fun i555 => ?_)
  refine s_bast (pc := 552) o554 i555 dX12_init_552 (fun M556 hM557 => ?_)
  have h558 := le_wI hM557
  have o559 := h558.ok o553
  have o560 := h558.ok o554
  refine s_dup (pc := 553) dX12_init_553 rfl ?_
  refine s_bipush (pc := 554) 82 dX12_init_554 kb_82 ?_
  refine s_bipush (pc := 556) 111 dX12_init_556 kb_111 ?_
  refine s_grd (fun i561 => ?_)
  refine s_bast (pc := 558) o560 i561 dX12_init_558 (fun M562 hM563 => ?_)
  have h564 := le_wI hM563
  have o565 := h564.ok o559
  have o566 := h564.ok o560
  refine s_dup (pc := 559) dX12_init_559 rfl ?_
  refine s_bipush (pc := 560) 83 dX12_init_560 kb_83 ?_
  refine s_bipush (pc := 562) 110 dX12_init_562 kb_110 ?_
  refine s_grd (fun i567 => ?_)
  refine s_bast (pc := 564) o566 i567 dX12_init_564 (fun M568 hM569 => ?_)
  have h570 := le_wI hM569
  have o571 := h570.ok o565
  have o572 := h570.ok o566
  refine s_dup (pc := 565) dX12_init_565 rfl ?_
  refine s_bipush (pc := 566) 84 dX12_init_566 kb_84 ?_
  refine s_bipush (pc := 568) 101 dX12_init_568 kb_101 ?_
  refine s_grd (fun i573 => ?_)
  refine s_bast (pc := 570) o572 i573 dX12_init_570 (fun M574 hM575 => ?_)
  have h576 := le_wI hM575
  have o577 := h576.ok o571
  have o578 := h576.ok o572
  refine s_dup (pc := 571) dX12_init_571 rfl ?_
  refine s_bipush (pc := 572) 85 dX12_init_572 kb_85 ?_
  refine s_bipush (pc := 574) 32 dX12_init_574 kb_32 ?_
  refine s_grd (fun i579 => ?_)
  refine s_bast (pc := 576) o578 i579 dX12_init_576 (fun M580 hM581 => ?_)
  have h582 := le_wI hM581
  have o583 := h582.ok o577
  have o584 := h582.ok o578
  refine s_dup (pc := 577) dX12_init_577 rfl ?_
  refine s_bipush (pc := 578) 86 dX12_init_578 kb_86 ?_
  refine s_bipush (pc := 580) 108 dX12_init_580 kb_108 ?_
  refine s_grd (fun i585 => ?_)
  refine s_bast (pc := 582) o584 i585 dX12_init_582 (fun M586 hM587 => ?_)
  have h588 := le_wI hM587
  have o589 := h588.ok o583
  have o590 := h588.ok o584
  refine s_dup (pc := 583) dX12_init_583 rfl ?_
  refine s_bipush (pc := 584) 87 dX12_init_584 kb_87 ?_
  refine s_bipush (pc := 586) 97 dX12_init_586 kb_97 ?_
  refine s_grd (fun i591 => ?_)
  refine s_bast (pc := 588) o590 i591 dX12_init_588 (fun M592 hM593 => ?_)
  have h594 := le_wI hM593
  have o595 := h594.ok o589
  have o596 := h594.ok o590
  refine s_dup (pc := 589) dX12_init_589 rfl ?_
  refine s_bipush (pc := 590) 88 dX12_init_590 kb_88 ?_
  refine s_bipush (pc := 592) 115 dX12_init_592 kb_115 ?_
  refine s_grd (fun i597 => ?_)
  refine s_bast (pc := 594) o596 i597 dX12_init_594 (fun M598 hM599 => ?_)
  have h600 := le_wI hM599
  have o601 := h600.ok o595
  have o602 := h600.ok o596
  refine s_dup (pc := 595) dX12_init_595 rfl ?_
  refine s_bipush (pc := 596) 89 dX12_init_596 kb_89 ?_
  refine s_bipush (pc := 598) 116 dX12_init_598 kb_116 ?_
  refine s_grd (fun i603 => ?_)
  refine s_bast (pc := 600) o602 i603 dX12_init_600 (fun M604 hM605 => ?_)
  have h606 := le_wI hM605
  have o607 := h606.ok o601
  have o608 := h606.ok o602
  refine s_dup (pc := 601) dX12_init_601 rfl ?_
  refine s_bipush (pc := 602) 90 dX12_init_602 kb_90 ?_
  refine s_bipush (pc := 604) 32 dX12_init_604 kb_32 ?_
  refine s_grd (fun i609 => ?_)
  refine s_bast (pc := 606) o608 i609 dX12_init_606 (fun M610 hM611 => ?_)
  have h612 := le_wI hM611
  have o613 := h612.ok o607
  have o614 := h612.ok o608
  refine s_dup (pc := 607) dX12_init_607 rfl ?_
  refine s_bipush (pc := 608) 91 dX12_init_608 kb_91 ?_
  refine s_bipush (pc := 610) 98 dX12_init_610 kb_98 ?_
  refine s_grd (fun i615 => ?_)
  refine s_bast (pc := 612) o614 i615 dX12_init_612 (fun M616 hM617 => ?_)
  have h618 := le_wI hM617
  have o619 := h618.ok o613
  have o620 := h618.ok o614
  refine s_dup (pc := 613) dX12_init_613 rfl ?_
  refine s_bipush (pc := 614) 92 dX12_init_614 kb_92 ?_
  refine s_bipush (pc := 616) 111 dX12_init_616 kb_111 ?_
  refine s_grd (fun i621 => ?_)
  refine s_bast (pc := 618) o620 i621 dX12_init_618 (fun M622 hM623 => ?_)
  have h624 := le_wI hM623
  have o625 := h624.ok o619
  have o626 := h624.ok o620
  refine s_dup (pc := 619) dX12_init_619 rfl ?_
  refine s_bipush (pc := 620) 93 dX12_init_620 kb_93 ?_
  refine s_bipush (pc := 622) 114 dX12_init_622 kb_114 ?_
  refine s_grd (fun i627 => ?_)
  refine s_bast (pc := 624) o626 i627 dX12_init_624 (fun M628 hM629 => ?_)
  have h630 := le_wI hM629
  have o631 := h630.ok o625
  have o632 := h630.ok o626
  refine s_dup (pc := 625) dX12_init_625 rfl ?_
  refine s_bipush (pc := 626) 94 dX12_init_626 kb_94 ?_
  refine s_bipush (pc := 628) 110 dX12_init_628 kb_110 ?_
  refine s_grd (fun i633 => ?_)
  refine s_bast (pc := 630) o632 i633 dX12_init_630 (fun M634 hM635 => ?_)
  have h636 := le_wI hM635
  have o637 := h636.ok o631
  have o638 := h636.ok o632
  refine s_dup (pc := 631) dX12_init_631 rfl ?_
  refine s_bipush (pc := 632) 95 dX12_init_632 kb_95 ?_
  refine s_bipush (pc := 634) 32 dX12_init_634 kb_32 ?_
  refine s_grd (fun i639 => ?_)
  refine s_bast (pc := 636) o638 i639 dX12_init_636 (fun M640 hM641 => ?_)
  have h642 := le_wI hM641
  have o643 := h642.ok o637
  have o644 := h642.ok o638
  refine s_dup (pc := 637) dX12_init_637 rfl ?_
  refine s_bipush (pc := 638) 96 dX12_init_638 kb_96 ?_
  refine s_bipush (pc := 640) 111 dX12_init_640 kb_111 ?_
  refine s_grd (fun i645 => ?_)
  refine s_bast (pc := 642) o644 i645 dX12_init_642 (fun M646 hM647 => ?_)
  have h648 := le_wI hM647
  have o649 := h648.ok o643
  have o650 := h648.ok o644
  refine s_dup (pc := 643) dX12_init_643 rfl ?_
  refine s_bipush (pc := 644) 97 dX12_init_644 kb_97 ?_
  refine s_bipush (pc := 646) 117 dX12_init_646 kb_117 ?_
  refine s_grd (fun i651 => ?_)
  refine s_bast (pc := 648) o650 i651 dX12_init_648 (fun M652 hM653 => ?_)
  have h654 := le_wI hM653
  have o655 := h654.ok o649
  have o656 := h654.ok o650
  refine s_dup (pc := 649) dX12_init_649 rfl ?_
  refine s_bipush (pc := 650) 98 dX12_init_650 kb_98 ?_
  refine s_bipush (pc := 652) 116 dX12_init_652 kb_116 ?_
  refine s_grd (fun i657 => ?_)
  refine s_bast (pc := 654) o656 i657 dX12_init_654 (fun M658 hM659 => ?_)
  have h660 := le_wI hM659
  have o661 := h660.ok o655
  have o662 := h660.ok o656
  refine s_dup (pc := 655) dX12_init_655 rfl ?_
  refine s_bipush (pc := 656) 99 dX12_init_656 kb_99 ?_
  refine s_bipush (pc := 658) 32 dX12_init_658 kb_32 ?_
  refine s_grd (fun i663 => ?_)
  refine s_bast (pc := 660) o662 i663 dX12_init_660 (fun M664 hM665 => ?_)
  have h666 := le_wI hM665
  have o667 := h666.ok o661
  have o668 := h666.ok o662
  refine s_dup (pc := 661) dX12_init_661 rfl ?_
  refine s_bipush (pc := 662) 100 dX12_init_662 kb_100 ?_
  refine s_bipush (pc := 664) 115 dX12_init_664 kb_115 ?_
  refine s_grd (fun i669 => ?_)
  refine s_bast (pc := 666) o668 i669 dX12_init_666 (fun M670 hM671 => ?_)
  have h672 := le_wI hM671
  have o673 := h672.ok o667
  have o674 := h672.ok o668
  refine s_dup (pc := 667) dX12_init_667 rfl ?_
  refine s_bipush (pc := 668) 101 dX12_init_668 kb_101 ?_
  refine s_bipush (pc := 670) 119 dX12_init_670 kb_119 ?_
  refine s_grd (fun i675 => ?_)
  refine s_bast (pc := 672) o674 i675 dX12_init_672 (fun M676 hM677 => ?_)
  have h678 := le_wI hM677
  have o679 := h678.ok o673
  have o680 := h678.ok o674
  refine s_dup (pc := 673) dX12_init_673 rfl ?_
  refine s_bipush (pc := 674) 102 dX12_init_674 kb_102 ?_
  refine s_bipush (pc := 676) 97 dX12_init_676 kb_97 ?_
  refine s_grd (fun i681 => ?_)
  refine s_bast (pc := 678) o680 i681 dX12_init_678 (fun M682 hM683 => ?_)
  have h684 := le_wI hM683
  have o685 := h684.ok o679
  have o686 := h684.ok o680
  refine s_dup (pc := 679) dX12_init_679 rfl ?_
  refine s_bipush (pc := 680) 103 dX12_init_680 kb_103 ?_
  refine s_bipush (pc := 682) 112 dX12_init_682 kb_112 ?_
  refine s_grd (fun i687 => ?_)
  refine s_bast (pc := 684) o686 i687 dX12_init_684 (fun M688 hM689 => ?_)
  have h690 := le_wI hM689
  have o691 := h690.ok o685
  have o692 := h690.ok o686
  refine s_dup (pc := 685) dX12_init_685 rfl ?_
  refine s_bipush (pc := 686) 104 dX12_init_686 kb_104 ?_
  refine s_bipush (pc := 688) 32 dX12_init_688 kb_32 ?_
  refine s_grd (fun i693 => ?_)
  refine s_bast (pc := 690) o692 i693 dX12_init_690 (fun M694 hM695 => ?_)
  have h696 := le_wI hM695
  have o697 := h696.ok o691
  have o698 := h696.ok o692
  refine s_dup (pc := 691) dX12_init_691 rfl ?_
  refine s_bipush (pc := 692) 105 dX12_init_692 kb_105 ?_
  refine s_bipush (pc := 694) 100 dX12_init_694 kb_100 ?_
  refine s_grd (fun i699 => ?_)
  refine s_bast (pc := 696) o698 i699 dX12_init_696 (fun M700 hM701 => ?_)
  have h702 := le_wI hM701
  have o703 := h702.ok o697
  have o704 := h702.ok o698
  refine s_dup (pc := 697) dX12_init_697 rfl ?_
  refine s_bipush (pc := 698) 106 dX12_init_698 kb_106 ?_
  refine s_bipush (pc := 700) 111 dX12_init_700 kb_111 ?_
  refine s_grd (fun i705 => ?_)
  refine s_bast (pc := 702) o704 i705 dX12_init_702 (fun M706 hM707 => ?_)
  have h708 := le_wI hM707
  have o709 := h708.ok o703
  have o710 := h708.ok o704
  refine s_dup (pc := 703) dX12_init_703 rfl ?_
  refine s_bipush (pc := 704) 107 dX12_init_704 kb_107 ?_
  refine s_bipush (pc := 706) 117 dX12_init_706 kb_117 ?_
  refine s_grd (fun i711 => ?_)
  refine s_bast (pc := 708) o710 i711 dX12_init_708 (fun M712 hM713 => ?_)
  have h714 := le_wI hM713
  have o715 := h714.ok o709
  have o716 := h714.ok o710
  refine s_dup (pc := 709) dX12_init_709 rfl ?_
  refine s_bipush (pc := 710) 108 dX12_init_710 kb_108 ?_
  refine s_bipush (pc := 712) 98 dX12_init_712 kb_98 ?_
  refine s_grd (fun i717 => ?_)
  refine s_bast (pc := 714) o716 i717 dX12_init_714 (fun M718 hM719 => ?_)
  have h720 := le_wI hM719
  have o721 := h720.ok o715
  have o722 := h720.ok o716
  refine s_dup (pc := 715) dX12_init_715 rfl ?_
  refine s_bipush (pc := 716) 109 dX12_init_716 kb_109 ?_
  refine s_bipush (pc := 718) 108 dX12_init_718 kb_108 ?_
  refine s_grd (fun i723 => ?_)
  refine s_bast (pc := 720) o722 i723 dX12_init_720 (fun M724 hM725 => ?_)
  have h726 := le_wI hM725
  have o727 := h726.ok o721
  have o728 := h726.ok o722
  refine s_dup (pc := 721) dX12_init_721 rfl ?_
  refine s_bipush (pc := 722) 110 dX12_init_722 kb_110 ?_
  refine s_bipush (pc := 724) 101 dX12_init_724 kb_101 ?_
  refine s_grd (fun i729 => ?_)
  refine s_bast (pc := 726) o728 i729 dX12_init_726 (fun M730 hM731 => ?_)
  have h732 := le_wI hM731
  have o733 := h732.ok o727
  have o734 := h732.ok o728
  refine s_dup (pc := 727) dX12_init_727 rfl ?_
  refine s_bipush (pc := 728) 111 dX12_init_728 kb_111 ?_
  refine s_bipush (pc := 730) 32 dX12_init_730 kb_32 ?_
  refine s_grd (fun i735 => ?_)
  refine s_bast (pc := 732) o734 i735 dX12_init_732 (fun M736 hM737 => ?_)
  have h738 := le_wI hM737
  have o739 := h738.ok o733
  have o740 := h738.ok o734
  refine s_dup (pc := 733) dX12_init_733 rfl ?_
  refine s_bipush (pc := 734) 112 dX12_init_734 kb_112 ?_
  refine s_bipush (pc := 736) 115 dX12_init_736 kb_115 ?_
  refine s_grd (fun i741 => ?_)
  refine s_bast (pc := 738) o740 i741 dX12_init_738 (fun M742 hM743 => ?_)
  have h744 := le_wI hM743
  have o745 := h744.ok o739
  have o746 := h744.ok o740
  refine s_dup (pc := 739) dX12_init_739 rfl ?_
  refine s_bipush (pc := 740) 113 dX12_init_740 kb_113 ?_
  refine s_bipush (pc := 742) 116 dX12_init_742 kb_116 ?_
  refine s_grd (fun i747 => ?_)
  refine s_bast (pc := 744) o746 i747 dX12_init_744 (fun M748 hM749 => ?_)
  have h750 := le_wI hM749
  have o751 := h750.ok o745
  have o752 := h750.ok o746
  refine s_dup (pc := 745) dX12_init_745 rfl ?_
  refine s_bipush (pc := 746) 114 dX12_init_746 kb_114 ?_
  refine s_bipush (pc := 748) 97 dX12_init_748 kb_97 ?_
  refine s_grd (fun i753 => ?_)
  refine s_bast (pc := 750) o752 i753 dX12_init_750 (fun M754 hM755 => ?_)
  have h756 := le_wI hM755
  have o757 := h756.ok o751
  have o758 := h756.ok o752
  refine s_dup (pc := 751) dX12_init_751 rfl ?_
  refine s_bipush (pc := 752) 115 dX12_init_752 kb_115 ?_
  refine s_bipush (pc := 754) 110 dX12_init_754 kb_110 ?_
  refine s_grd (fun i759 => ?_)
  refine s_bast (pc := 756) o758 i759 dX12_init_756 (fun M760 hM761 => ?_)
  have h762 := le_wI hM761
  have o763 := h762.ok o757
  have o764 := h762.ok o758
  refine s_dup (pc := 757) dX12_init_757 rfl ?_
  refine s_bipush (pc := 758) 116 dX12_init_758 kb_116 ?_
  refine s_bipush (pc := 760) 100 dX12_init_760 kb_100 ?_
  refine s_grd (fun i765 => ?_)
  refine s_bast (pc := 762) o764 i765 dX12_init_762 (fun M766 hM767 => ?_)
  have h768 := le_wI hM767
  have o769 := h768.ok o763
  have o770 := h768.ok o764
  refine s_dup (pc := 763) dX12_init_763 rfl ?_
  refine s_bipush (pc := 764) 117 dX12_init_764 kb_117 ?_
  refine s_bipush (pc := 766) 32 dX12_init_766 kb_32 ?_
  refine s_grd (fun i771 => ?_)
  refine s_bast (pc := 768) o770 i771 dX12_init_768 (fun M772 hM773 => ?_)
  have h774 := le_wI hM773
  have o775 := h774.ok o769
  have o776 := h774.ok o770
  refine s_dup (pc := 769) dX12_init_769 rfl ?_
  refine s_bipush (pc := 770) 118 dX12_init_770 kb_118 ?_
  refine s_bipush (pc := 772) 105 dX12_init_772 kb_105 ?_
  refine s_grd (fun i777 => ?_)
  refine s_bast (pc := 774) o776 i777 dX12_init_774 (fun M778 hM779 => ?_)
  have h780 := le_wI hM779
  have o781 := h780.ok o775
  have o782 := h780.ok o776
  refine s_dup (pc := 775) dX12_init_775 rfl ?_
  refine s_bipush (pc := 776) 119 dX12_init_776 kb_119 ?_
  refine s_bipush (pc := 778) 110 dX12_init_778 kb_110 ?_
  refine s_grd (fun i783 => ?_)
  refine s_bast (pc := 780) o782 i783 dX12_init_780 (fun M784 hM785 => ?_)
  have h786 := le_wI hM785
  have o787 := h786.ok o781
  have o788 := h786.ok o782
  refine s_dup (pc := 781) dX12_init_781 rfl ?_
  refine s_bipush (pc := 782) 120 dX12_init_782 kb_120 ?_
  refine s_bipush (pc := 784) 32 dX12_init_784 kb_32 ?_
  refine s_grd (fun i789 => ?_)
  refine s_bast (pc := 786) o788 i789 dX12_init_786 (fun M790 hM791 => ?_)
  have h792 := le_wI hM791
  have o793 := h792.ok o787
  have o794 := h792.ok o788
  refine s_dup (pc := 787) dX12_init_787 rfl ?_
  refine s_bipush (pc := 788) 121 dX12_init_788 kb_121 ?_
  refine s_bipush (pc := 790) 97 dX12_init_790 kb_97 ?_
  refine s_grd (fun i795 => ?_)
  refine s_bast (pc := 792) o794 i795 dX12_init_792 (fun M796 hM797 => ?_)
  have h798 := le_wI hM797
  have o799 := h798.ok o793
  have o800 := h798.ok o794
  refine s_dup (pc := 793) dX12_init_793 rfl ?_
  refine s_bipush (pc := 794) 122 dX12_init_794 kb_122 ?_
  refine s_bipush (pc := 796) 116 dX12_init_796 kb_116 ?_
  refine s_grd (fun i801 => ?_)
  refine s_bast (pc := 798) o800 i801 dX12_init_798 (fun M802 hM803 => ?_)
  have h804 := le_wI hM803
  have o805 := h804.ok o799
  have o806 := h804.ok o800
  refine s_dup (pc := 799) dX12_init_799 rfl ?_
  refine s_bipush (pc := 800) 123 dX12_init_800 kb_123 ?_
  refine s_bipush (pc := 802) 32 dX12_init_802 kb_32 ?_
  refine s_grd (fun i807 => ?_)
  refine s_bast (pc := 804) o806 i807 dX12_init_804 (fun M808 hM809 => ?_)
  have h810 := le_wI hM809
  have o811 := h810.ok o805
  have o812 := h810.ok o806
  refine s_dup (pc := 805) dX12_init_805 rfl ?_
  refine s_bipush (pc := 806) 124 dX12_init_806 kb_124 ?_
  refine s_bipush (pc := 808) 116 dX12_init_808 kb_116 ?_
  refine s_grd (fun i813 => ?_)
  refine s_bast (pc := 810) o812 i813 dX12_init_810 (fun M814 hM815 => ?_)
  have h816 := le_wI hM815
  have o817 := h816.ok o811
  have o818 := h816.ok o812
  refine s_dup (pc := 811) dX12_init_811 rfl ?_
  refine s_bipush (pc := 812) 125 dX12_init_812 kb_125 ?_
  refine s_bipush (pc := 814) 105 dX12_init_814 kb_105 ?_
  refine s_grd (fun i819 => ?_)
  refine s_bast (pc := 816) o818 i819 dX12_init_816 (fun M820 hM821 => ?_)
  have h822 := le_wI hM821
  have o823 := h822.ok o817
  have o824 := h822.ok o818
  refine s_dup (pc := 817) dX12_init_817 rfl ?_
  refine s_bipush (pc := 818) 126 dX12_init_818 kb_126 ?_
  refine s_bipush (pc := 820) 109 dX12_init_820 kb_109 ?_
  refine s_grd (fun i825 => ?_)
  refine s_bast (pc := 822) o824 i825 dX12_init_822 (fun M826 hM827 => ?_)
  have h828 := le_wI hM827
  have o829 := h828.ok o823
  have o830 := h828.ok o824
  refine s_dup (pc := 823) dX12_init_823 rfl ?_
  refine s_bipush (pc := 824) 127 dX12_init_824 kb_127 ?_
  refine s_bipush (pc := 826) 101 dX12_init_826 kb_101 ?_
  refine s_grd (fun i831 => ?_)
  refine s_bast (pc := 828) o830 i831 dX12_init_828 (fun M832 hM833 => ?_)
  have h834 := le_wI hM833
  have o835 := h834.ok o829
  have o836 := h834.ok o830
  refine s_dup (pc := 829) dX12_init_829 rfl ?_
  refine s_sipush (pc := 830) 128 dX12_init_830 ks_128 ?_
  refine s_bipush (pc := 833) 115 dX12_init_833 kb_115 ?_
  refine s_grd (fun i837 => ?_)
  refine s_bast (pc := 835) o836 i837 dX12_init_835 (fun M838 hM839 => ?_)
  have h840 := le_wI hM839
  have o841 := h840.ok o835
  have o842 := h840.ok o836
  refine s_dup (pc := 836) dX12_init_836 rfl ?_
  refine s_sipush (pc := 837) 129 dX12_init_837 ks_129 ?_
  refine s_bipush (pc := 840) 32 dX12_init_840 kb_32 ?_
  refine s_grd (fun i843 => ?_)
  refine s_bast (pc := 842) o842 i843 dX12_init_842 (fun M844 hM845 => ?_)
  have h846 := le_wI hM845
  have o847 := h846.ok o841
  have o848 := h846.ok o842
  refine s_putrF (pc := 843) F_12 13 rfl o847 rfl rfl rfl rfl rfl dX12_init_843 kf_X12_39 (fun M849 hM850 => ?_)
  have h851 := le_wR hM850
  have o852 := h851.ok o847
  refine s_aload_n (pc := 846) 0 dX12_init_846 rfl rfl ?_
  refine s_sipush (pc := 847) 400 dX12_init_847 ks_400 ?_
  refine s_newa_byte (pc := 850) (And.intro (by decide) (by decide)) dX12_init_850 wa_byte (fun M853 hM854 => ?_)
  have h855 := le_nA hM854
  have o856 := h855.ok o852
  have o857 := ok_nA hM854
  refine s_putrF (pc := 852) F_12 15 rfl o856 rfl rfl rfl rfl rfl dX12_init_852 kf_X12_43 (fun M858 hM859 => ?_)
  have h860 := le_wR hM859
  have o861 := h860.ok o856
  refine s_aload_n (pc := 855) 0 dX12_init_855 rfl rfl ?_
  refine s_iconst (pc := 856) 5 dX12_init_856 kc_5 ?_
  refine s_newa_int (pc := 857) (And.intro (by decide) (by decide)) dX12_init_857 wa_int (fun M862 hM863 => ?_)
  have h864 := le_nA hM863
  have o865 := h864.ok o861
  have o866 := ok_nA hM863
  refine s_putrF (pc := 859) F_12 16 rfl o865 rfl rfl rfl rfl rfl dX12_init_859 kf_X12_46 (fun M867 hM868 => ?_)
  have h869 := le_wR hM868
  have o870 := h869.ok o865
  refine s_aload_n (pc := 862) 0 dX12_init_862 rfl rfl ?_
  refine s_iconst (pc := 863) (-1) dX12_init_863 kc_m1 ?_
  refine s_puti (pc := 864) F_12 18 rfl o870 rfl rfl rfl dX12_init_864 kf_X12_49 (fun M871 hM872 => ?_)
  have h873 := le_wI hM872
  have o874 := h873.ok o870
  refine s_aload_n (pc := 867) 0 dX12_init_867 rfl rfl ?_
  refine s_sipush (pc := 868) 401 dX12_init_868 ks_401 ?_
  refine s_newa_int (pc := 871) (And.intro (by decide) (by decide)) dX12_init_871 wa_int (fun M875 hM876 => ?_)
  have h877 := le_nA hM876
  have o878 := h877.ok o874
  have o879 := ok_nA hM876
  refine s_putrF (pc := 873) F_12 19 rfl o878 rfl rfl rfl rfl rfl dX12_init_873 kf_X12_52 (fun M880 hM881 => ?_)
  have h882 := le_wR hM881
  have o883 := h882.ok o878
  refine s_aload_n (pc := 876) 0 dX12_init_876 rfl rfl ?_
  refine s_sipush (pc := 877) 401 dX12_init_877 ks_401 ?_
  refine s_newa_int (pc := 880) (And.intro (by decide) (by decide)) dX12_init_880 wa_int (fun M884 hM885 => ?_)
  have h886 := le_nA hM885
  have o887 := h886.ok o883
  have o888 := ok_nA hM885
  refine s_putrF (pc := 882) F_12 20 rfl o887 rfl rfl rfl rfl rfl dX12_init_882 kf_X12_55 (fun M889 hM890 => ?_)
  have h891 := le_wR hM890
  have o892 := h891.ok o887
  refine s_aload_n (pc := 885) 0 dX12_init_885 rfl rfl ?_
  refine s_sipush (pc := 886) 401 dX12_init_886 ks_401 ?_
  refine s_newa_int (pc := 889) (And.intro (by decide) (by decide)) dX12_init_889 wa_int (fun M893 hM894 => ?_)
  have h895 := le_nA hM894
  have o896 := h895.ok o892
  have o897 := ok_nA hM894
  refine s_putrF (pc := 891) F_12 21 rfl o896 rfl rfl rfl rfl rfl dX12_init_891 kf_X12_58 (fun M898 hM899 => ?_)
  have h900 := le_wR hM899
  have o901 := h900.ok o896
  refine s_aload_n (pc := 894) 0 dX12_init_894 rfl rfl ?_
  refine s_bipush (pc := 895) 8 dX12_init_895 kb_8 ?_
  refine s_newa_int (pc := 897) (And.intro (by decide) (by decide)) dX12_init_897 wa_int (fun M902 hM903 => ?_)
  have h904 := le_nA hM903
  have o905 := h904.ok o901
  have o906 := ok_nA hM903
  refine s_putrF (pc := 899) F_12 30 rfl o905 rfl rfl rfl rfl rfl dX12_init_899 kf_X12_61 (fun M907 hM908 => ?_)
  have h909 := le_wR hM908
  have o910 := h909.ok o905
  refine s_aload_n (pc := 902) 0 dX12_init_902 rfl rfl ?_
  refine s_iconst (pc := 903) 4 dX12_init_903 kc_4 ?_
  refine s_newa_int (pc := 904) (And.intro (by decide) (by decide)) dX12_init_904 wa_int (fun M911 hM912 => ?_)
  have h913 := le_nA hM912
  have o914 := h913.ok o910
  have o915 := ok_nA hM912
  refine s_putrF (pc := 906) F_12 31 rfl o914 rfl rfl rfl rfl rfl dX12_init_906 kf_X12_64 (fun M916 hM917 => ?_)
  have h918 := le_wR hM917
  have o919 := h918.ok o914
  refine s_aload_n (pc := 909) 0 dX12_init_909 rfl rfl ?_
  refine s_ldc (pc := 910) dX12_init_910 ki_X12_67 ?_
  refine s_newa_int (pc := 912) (And.intro (by decide) (by decide)) dX12_init_912 wa_int (fun M920 hM921 => ?_)
  have h922 := le_nA hM921
  have o923 := h922.ok o919
  have o924 := ok_nA hM921
  refine s_putrF (pc := 914) F_12 32 rfl o923 rfl rfl rfl rfl rfl dX12_init_914 kf_X12_68 (fun M925 hM926 => ?_)
  have h927 := le_wR hM926
  have o928 := h927.ok o923
  refine s_aload_n (pc := 917) 0 dX12_init_917 rfl rfl ?_
  refine s_sipush (pc := 918) 9331 dX12_init_918 ks_9331 ?_
  refine s_newa_int (pc := 921) (And.intro (by decide) (by decide)) dX12_init_921 wa_int (fun M929 hM930 => ?_)
  have h931 := le_nA hM930
  have o932 := h931.ok o928
  have o933 := ok_nA hM930
  refine s_putrF (pc := 923) F_12 33 rfl o932 rfl rfl rfl rfl rfl dX12_init_923 kf_X12_71 (fun M934 hM935 => ?_)
  have h936 := le_wR hM935
  have o937 := h936.ok o932
  refine s_aload_n (pc := 926) 0 dX12_init_926 rfl rfl ?_
  refine s_iconst (pc := 927) (-1) dX12_init_927 kc_m1 ?_
  refine s_puti (pc := 928) F_12 34 rfl o937 rfl rfl rfl dX12_init_928 kf_X12_74 (fun M938 hM939 => ?_)
  have h940 := le_wI hM939
  have o941 := h940.ok o937
  refine s_aload_n (pc := 931) 0 dX12_init_931 rfl rfl ?_
  refine s_sipush (pc := 932) 9331 dX12_init_932 ks_9331 ?_
  refine s_newa_int (pc := 935) (And.intro (by decide) (by decide)) dX12_init_935 wa_int (fun M942 hM943 => ?_)
  have h944 := le_nA hM943
  have o945 := h944.ok o941
  have o946 := ok_nA hM943
  refine s_putrF (pc := 937) F_12 35 rfl o945 rfl rfl rfl rfl rfl dX12_init_937 kf_X12_77 (fun M947 hM948 => ?_)
  have h949 := le_wR hM948
  have o950 := h949.ok o945
  refine s_aload_n (pc := 940) 0 dX12_init_940 rfl rfl ?_
  refine s_sipush (pc := 941) 9331 dX12_init_941 ks_9331 ?_
  refine s_newa_int (pc := 944) (And.intro (by decide) (by decide)) dX12_init_944 wa_int (fun M951 hM952 => ?_)
  have h953 := le_nA hM952
  have o954 := h953.ok o950
  have o955 := ok_nA hM952
  refine s_putrF (pc := 946) F_12 36 rfl o954 rfl rfl rfl rfl rfl dX12_init_946 kf_X12_80 (fun M956 hM957 => ?_)
  have h958 := le_wR hM957
  have o959 := h958.ok o954
  refine s_aload_n (pc := 949) 0 dX12_init_949 rfl rfl ?_
  refine s_sipush (pc := 950) 9331 dX12_init_950 ks_9331 ?_
  refine s_newa_bool (pc := 953) (And.intro (by decide) (by decide)) dX12_init_953 wa_boolean (fun M960 hM961 => ?_)
  have h962 := le_nA hM961
  have o963 := h962.ok o959
  have o964 := ok_nA hM961
  refine s_putrF (pc := 955) F_12 37 rfl o963 rfl rfl rfl rfl rfl dX12_init_955 kf_X12_83 (fun M965 hM966 => ?_)
  have h967 := le_wR hM966
  have o968 := h967.ok o963
  refine s_aload_n (pc := 958) 0 dX12_init_958 rfl rfl ?_
  refine s_bipush (pc := 959) 46 dX12_init_959 kb_46 ?_
  refine s_newa_int (pc := 961) (And.intro (by decide) (by decide)) dX12_init_961 wa_int (fun M969 hM970 => ?_)
  have h971 := le_nA hM970
  have o972 := h971.ok o968
  have o973 := ok_nA hM970
  refine s_putrF (pc := 963) F_12 38 rfl o972 rfl rfl rfl rfl rfl dX12_init_963 kf_X12_86 (fun M974 hM975 => ?_)
  have h976 := le_wR hM975
  have o977 := h976.ok o972
  refine s_aload_n (pc := 966) 0 dX12_init_966 rfl rfl ?_
  refine s_sipush (pc := 967) 9331 dX12_init_967 ks_9331 ?_
  refine s_newa_int (pc := 970) (And.intro (by decide) (by decide)) dX12_init_970 wa_int (fun M978 hM979 => ?_)
  have h980 := le_nA hM979
  have o981 := h980.ok o977
  have o982 := ok_nA hM979
  refine s_putrF (pc := 972) F_12 39 rfl o981 rfl rfl rfl rfl rfl dX12_init_972 kf_X12_89 (fun M983 hM984 => ?_)
  have h985 := le_wR hM984
  have o986 := h985.ok o981
  refine s_aload_n (pc := 975) 0 dX12_init_975 rfl rfl ?_
  refine s_bipush (pc := 976) 6 dX12_init_976 kb_6 ?_
  refine s_newa_int (pc := 978) (And.intro (by decide) (by decide)) dX12_init_978 wa_int (fun M987 hM988 => ?_)
  have h989 := le_nA hM988
  have o990 := h989.ok o986
  have o991 := ok_nA hM988
  refine s_putrF (pc := 980) F_12 40 rfl o990 rfl rfl rfl rfl rfl dX12_init_980 kf_X12_92 (fun M992 hM993 => ?_)
  have h994 := le_wR hM993
  have o995 := h994.ok o990
  refine s_aload_n (pc := 983) 0 dX12_init_983 rfl rfl ?_
  refine s_bipush (pc := 984) 36 dX12_init_984 kb_36 ?_
  refine s_newa_int (pc := 986) (And.intro (by decide) (by decide)) dX12_init_986 wa_int (fun M996 hM997 => ?_)
  have h998 := le_nA hM997
  have o999 := h998.ok o995
  have o1000 := ok_nA hM997
  refine s_putrF (pc := 988) F_12 41 rfl o999 rfl rfl rfl rfl rfl dX12_init_988 kf_X12_95 (fun M1001 hM1002 => ?_)
  have h1003 := le_wR hM1002
  have o1004 := h1003.ok o999
  refine s_aload_n (pc := 991) 0 dX12_init_991 rfl rfl ?_
  refine s_bipush (pc := 992) 6 dX12_init_992 kb_6 ?_
  refine s_newa_int (pc := 994) (And.intro (by decide) (by decide)) dX12_init_994 wa_int (fun M1005 hM1006 => ?_)
  have h1007 := le_nA hM1006
  have o1008 := h1007.ok o1004
  have o1009 := ok_nA hM1006
  refine s_putrF (pc := 996) F_12 42 rfl o1008 rfl rfl rfl rfl rfl dX12_init_996 kf_X12_98 (fun M1010 hM1011 => ?_)
  have h1012 := le_wR hM1011
  have o1013 := h1012.ok o1008
  refine s_aload_n (pc := 999) 0 dX12_init_999 rfl rfl ?_
  refine s_bipush (pc := 1000) 6 dX12_init_1000 kb_6 ?_
  refine s_newa_int (pc := 1002) (And.intro (by decide) (by decide)) dX12_init_1002 wa_int (fun M1014 hM1015 => ?_)
  have h1016 := le_nA hM1015
  have o1017 := h1016.ok o1013
  have o1018 := ok_nA hM1015
  refine s_putrF (pc := 1004) F_12 43 rfl o1017 rfl rfl rfl rfl rfl dX12_init_1004 kf_X12_101 (fun M1019 hM1020 => ?_)
  have h1021 := le_wR hM1020
  have o1022 := h1021.ok o1017
  refine s_aload_n (pc := 1007) 0 dX12_init_1007 rfl rfl ?_
  refine s_sipush (pc := 1008) 9331 dX12_init_1008 ks_9331 ?_
  refine s_newa_long (pc := 1011) (And.intro (by decide) (by decide)) dX12_init_1011 wa_long (fun M1023 hM1024 => ?_)
  have h1025 := le_nA hM1024
  have o1026 := h1025.ok o1022
  have o1027 := ok_nA hM1024
  refine s_putrF (pc := 1013) F_12 44 rfl o1026 rfl rfl rfl rfl rfl dX12_init_1013 kf_X12_104 (fun M1028 hM1029 => ?_)
  have h1030 := le_wR hM1029
  have o1031 := h1030.ok o1026
  refine s_aload_n (pc := 1016) 0 dX12_init_1016 rfl rfl ?_
  refine s_sipush (pc := 1017) 9331 dX12_init_1017 ks_9331 ?_
  refine s_newa_long (pc := 1020) (And.intro (by decide) (by decide)) dX12_init_1020 wa_long (fun M1032 hM1033 => ?_)
  have h1034 := le_nA hM1033
  have o1035 := h1034.ok o1031
  have o1036 := ok_nA hM1033
  refine s_putrF (pc := 1022) F_12 45 rfl o1035 rfl rfl rfl rfl rfl dX12_init_1022 kf_X12_108 (fun M1037 hM1038 => ?_)
  have h1039 := le_wR hM1038
  have o1040 := h1039.ok o1035
  refine s_aload_n (pc := 1025) 0 dX12_init_1025 rfl rfl ?_
  refine s_iconst (pc := 1026) (-1) dX12_init_1026 kc_m1 ?_
  refine s_puti (pc := 1027) F_12 46 rfl o1040 rfl rfl rfl dX12_init_1027 kf_X12_111 (fun M1041 hM1042 => ?_)
  have h1043 := le_wI hM1042
  have o1044 := h1043.ok o1040
  refine s_aload_n (pc := 1030) 0 dX12_init_1030 rfl rfl ?_
  refine s_iconst (pc := 1031) 3 dX12_init_1031 kc_3 ?_
  refine s_newa_long (pc := 1032) (And.intro (by decide) (by decide)) dX12_init_1032 wa_long (fun M1045 hM1046 => ?_)
  have h1047 := le_nA hM1046
  have o1048 := h1047.ok o1044
  have o1049 := ok_nA hM1046
  refine s_putrF (pc := 1034) F_12 55 rfl o1048 rfl rfl rfl rfl rfl dX12_init_1034 kf_X12_114 (fun M1050 hM1051 => ?_)
  have h1052 := le_wR hM1051
  have o1053 := h1052.ok o1048
  refine s_aload_n (pc := 1037) 0 dX12_init_1037 rfl rfl ?_
  refine s_bipush (pc := 1038) 61 dX12_init_1038 kb_61 ?_
  refine s_newa_int (pc := 1040) (And.intro (by decide) (by decide)) dX12_init_1040 wa_int (fun M1054 hM1055 => ?_)
  have h1056 := le_nA hM1055
  have o1057 := h1056.ok o1053
  have o1058 := ok_nA hM1055
  refine s_putrF (pc := 1042) F_12 56 rfl o1057 rfl rfl rfl rfl rfl dX12_init_1042 kf_X12_117 (fun M1059 hM1060 => ?_)
  have h1061 := le_wR hM1060
  have o1062 := h1061.ok o1057
  refine s_aload_n (pc := 1045) 0 dX12_init_1045 rfl rfl ?_
  refine s_iconst (pc := 1046) (-1) dX12_init_1046 kc_m1 ?_
  refine s_puti (pc := 1047) F_12 57 rfl o1062 rfl rfl rfl dX12_init_1047 kf_X12_120 (fun M1063 hM1064 => ?_)
  have h1065 := le_wI hM1064
  have o1066 := h1065.ok o1062
  refine s_iconst (pc := 1050) 0 dX12_init_1050 kc_0 ?_
  refine s_istore_n (pc := 1051) 1 dX12_init_1051 rfl (nlt rfl) rfl (L' := [some (.ref (gh (xG X) + a0)), some (.int 0)]) rfl ?_
  refine s_drop (L' := [some (.ref (gh (xG X) + a0)), some (.int 0)]) ?_ (And.intro rfl (And.intro rfl trivial))
  refine s_loop1 M1063 (fun s1067 : Mem × Int32 => s1067.1) (fun s1067 : Mem × Int32 => [some (.ref (gh (xG X) + a0)), some (.int s1067.2)]) (fun x1074 : Mem => x1074) 1084 (fun x1074 : Mem => [some (.ref (gh (xG X) + a0)), none]) (fun x1074 hx1075 => ?_) (fun T1069 R1071 hT1070 hR1072 s1067 hs1068 => ?_) (M1063, 0) Le.rf
  · show S0 X _ x1074 1084 [some (.ref (gh (xG X) + a0)), none] [] _
    have o1091 := hx1075.ok o1066
    refine s_aload_n (pc := 1084) 0 dX12_init_1084 rfl rfl ?_
    refine s_geto (pc := 1085) F_12 3 rfl o1091 dX12_init_1085 kf_X12_20 ?_
    refine s_rvB (fun r1092 => ?_)
    refine s_bipush (pc := 1088) 58 dX12_init_1088 kb_58 ?_
    refine s_iconst (pc := 1090) (-1) dX12_init_1090 kc_m1 ?_
    refine s_grd (fun o1093 => ?_)
    refine s_grd (fun i1094 => ?_)
    refine s_iast (pc := 1091) o1093 i1094 dX12_init_1091 (fun M1095 hM1096 => ?_)
    have h1097 := le_wI hM1096
    have o1098 := h1097.ok o1091
    exact s_vret rfl dX12_init_1092
  · show S0 X _ s1067.1 1052 [some (.ref (gh (xG X) + a0)), some (.int s1067.2)] [] _
    have o1073 := hs1068.ok o1066
    refine s_iload_n (pc := 1052) 1 dX12_init_1052 rfl rfl ?_
    refine s_bipush (pc := 1053) 6 dX12_init_1053 kb_6 ?_
    refine s_icge (pc := 1055) 1084 dX12_init_1055 rfl ?_ ?_
    · exact s_drop (hR1072 s1067.1 hs1068) (And.intro rfl trivial)
    · refine s_aload_n (pc := 1058) 0 dX12_init_1058 rfl rfl ?_
      refine s_geto (pc := 1059) F_12 3 rfl o1073 dX12_init_1059 kf_X12_20 ?_
      refine s_rvB (fun r1076 => ?_)
      refine s_bipush (pc := 1062) 6 dX12_init_1062 kb_6 ?_
      refine s_iload_n (pc := 1064) 1 dX12_init_1064 rfl rfl ?_
      refine s_iadd (pc := 1065) dX12_init_1065 ?_
      refine s_iconst (pc := 1066) 1 dX12_init_1066 kc_1 ?_
      refine s_grd (fun o1077 => ?_)
      refine s_grd (fun i1078 => ?_)
      refine s_iast (pc := 1067) o1077 i1078 dX12_init_1067 (fun M1079 hM1080 => ?_)
      have h1081 := le_wI hM1080
      have o1082 := h1081.ok o1073
      refine s_aload_n (pc := 1068) 0 dX12_init_1068 rfl rfl ?_
      refine s_geto (pc := 1069) F_12 3 rfl o1082 dX12_init_1069 kf_X12_20 ?_
      refine s_rvB (fun r1083 => ?_)
      refine s_bipush (pc := 1072) 12 dX12_init_1072 kb_12 ?_
      refine s_iload_n (pc := 1074) 1 dX12_init_1074 rfl rfl ?_
      refine s_iadd (pc := 1075) dX12_init_1075 ?_
      refine s_iconst (pc := 1076) (-1) dX12_init_1076 kc_m1 ?_
      refine s_grd (fun o1084 => ?_)
      refine s_grd (fun i1085 => ?_)
      refine s_iast (pc := 1077) o1084 i1085 dX12_init_1077 (fun M1086 hM1087 => ?_)
      have h1088 := le_wI hM1087
      have o1089 := h1088.ok o1082
      refine s_iinc (pc := 1078) dX12_init_1078 rfl (v := s1067.2 + 1) (congrArg (fun z : Int32 => s1067.2 + z) kc_1) (nlt rfl) rfl (L' := [some (.ref (gh (xG X) + a0)), some (.int (s1067.2 + 1))]) rfl ?_
      refine s_bv (fun x1090 : Int32 => [some (.ref (gh (xG X) + a0)), some (.int x1090)]) (fun x1090 => ?_) rfl
      refine s_goto (pc := 1081) 1052 dX12_init_1081 rfl ?_
      exact s_drop (hT1070 (M1086, x1090) (hs1068.tr (h1081.tr h1088))) (And.intro rfl (And.intro rfl trivial))
