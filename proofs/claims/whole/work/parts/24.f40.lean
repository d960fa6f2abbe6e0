set_option maxRecDepth 100000 in
set_option maxHeartbeats 8000000 in
noncomputable def f_L_law (xS : Nat → Int32) (LS : Nat) (M : Mem) : Option (Mem × Int32) :=
  bv (nO M 11 16) (fun M1 => Option.bind (f_X11_init M1 (mn M)) (fun q5 => bv (nO q5 12 59) (fun M10 => Option.bind (f_X12_init M10 (mn q5)) (fun q15 => Option.bind (loopO (σ := Mem × Int32) (ρ := Mem ⊕ Mem) (fun s21 => if ((Int32.ofNat LS) - 6) < s21.2 then (some (.inr (.inl s21.1))) else (grd (vp_in s21.2 LS) (bv (fun (s37 : Mem) => bv (s21.2 + 6 : Int32) (fun x42 => some (.inl (s37, x42)))) (fun j36 => swO ((xS s21.2.toNatClampNeg) &&& 63) (swC 0 [(192, grd (vp_in (s21.2 + 1) LS) (grd (vp_in (s21.2 + 2) LS) (grd (vp_in (s21.2 + 3) LS) (Option.bind (f_X11_put s21.1 (mn M) (xS (s21.2 + 1).toNatClampNeg) (xS (s21.2 + 2).toNatClampNeg) (xS (s21.2 + 3).toNatClampNeg)) (fun q46 => grd (vp_in (s21.2 + 1) LS) (grd (vp_in (s21.2 + 2) LS) (grd (vp_in (s21.2 + 3) LS) (Option.bind (f_X12_put q46.1 (mn q5) (xS (s21.2 + 1).toNatClampNeg) (xS (s21.2 + 2).toNatClampNeg) (xS (s21.2 + 3).toNatClampNeg)) (fun q55 => if q46.2 = q55.2 then (j36 q55.1) else (some (.inr (.inr q55.1)))))))))))), (235, grd (vp_in (s21.2 + 1) LS) (grd (vp_in (s21.2 + 2) LS) (Option.bind (f_X11_of s21.1 (mn M) (xS (s21.2 + 1).toNatClampNeg) (xS (s21.2 + 2).toNatClampNeg)) (fun q63 => Option.bind (f_X12_of s21.1 (mn q5) (xS (s21.2 + 1).toNatClampNeg) (xS (s21.2 + 2).toNatClampNeg)) (fun q66 => if q63 = q66 then (j36 s21.1) else (some (.inr (.inr s21.1)))))))), (268, grd (vp_in (s21.2 + 1) LS) (grd (vp_in (s21.2 + 2) LS) (grd (vp_in (s21.2 + 3) LS) (Option.bind (f_X11_house s21.1 (mn M) (xS (s21.2 + 1).toNatClampNeg) (xS (s21.2 + 2).toNatClampNeg) (xS (s21.2 + 3).toNatClampNeg)) (fun q72 => grd (vp_in (s21.2 + 1) LS) (grd (vp_in (s21.2 + 2) LS) (grd (vp_in (s21.2 + 3) LS) (Option.bind (f_X12_house q72.1 (mn q5) (xS (s21.2 + 1).toNatClampNeg) (xS (s21.2 + 2).toNatClampNeg) (xS (s21.2 + 3).toNatClampNeg)) (fun q81 => if q72.2 = q81.2 then (j36 q81.1) else (some (.inr (.inr q81.1)))))))))))), (311, grd (vp_in (s21.2 + 1) LS) (grd (vp_in (s21.2 + 2) LS) (grd (vp_in (s21.2 + 3) LS) (grd (vp_in (s21.2 + 4) LS) (Option.bind (f_X11_born s21.1 (mn M) (xS (s21.2 + 1).toNatClampNeg) (xS (s21.2 + 2).toNatClampNeg) (xS (s21.2 + 3).toNatClampNeg) (xS (s21.2 + 4).toNatClampNeg)) (fun q91 => grd (vp_in (s21.2 + 1) LS) (grd (vp_in (s21.2 + 2) LS) (grd (vp_in (s21.2 + 3) LS) (grd (vp_in (s21.2 + 4) LS) (Option.bind (f_X12_born q91.1 (mn q5) (xS (s21.2 + 1).toNatClampNeg) (xS (s21.2 + 2).toNatClampNeg) (xS (s21.2 + 3).toNatClampNeg) (xS (s21.2 + 4).toNatClampNeg)) (fun q101 => if q91.2 = q101.2 then (j36 q101.1) else (some (.inr (.inr q101.1)))))))))))))), (364, Option.bind (f_X11_undo s21.1 (mn M)) (fun q107 => Option.bind (f_X12_undo q107.1 (mn q5)) (fun q113 => if q107.2 = q113.2 then (j36 q113.1) else (some (.inr (.inr q113.1)))))), (377, grd (vp_in (s21.2 + 1) LS) (grd (vp_in (s21.2 + 2) LS) (Option.bind (f_X11_at s21.1 (mn M) (xS (s21.2 + 1).toNatClampNeg) (xS (s21.2 + 2).toNatClampNeg)) (fun q121 => grd (vp_in (s21.2 + 1) LS) (grd (vp_in (s21.2 + 2) LS) (Option.bind (f_X12_at q121.1 (mn q5) (xS (s21.2 + 1).toNatClampNeg) (xS (s21.2 + 2).toNatClampNeg)) (fun q129 => if q121.2 = q129.2 then (j36 q129.1) else (some (.inr (.inr q129.1)))))))))), (410, grd (vp_in (s21.2 + 1) LS) (grd (vp_in (s21.2 + 2) LS) (Option.bind (f_X11_terms s21.1 (mn M) (xS (s21.2 + 1).toNatClampNeg) (xS (s21.2 + 2).toNatClampNeg)) (fun q137 => grd (vp_in (s21.2 + 1) LS) (grd (vp_in (s21.2 + 2) LS) (Option.bind (f_X12_terms q137.1 (mn q5) (xS (s21.2 + 1).toNatClampNeg) (xS (s21.2 + 2).toNatClampNeg)) (fun q145 => if q137.2 = q145.2 then (j36 q145.1) else (some (.inr (.inr q145.1)))))))))), (443, grd (vp_in (s21.2 + 1) LS) (grd (vp_in (s21.2 + 2) LS) (grd (vp_in (s21.2 + 3) LS) (grd (vp_in (s21.2 + 4) LS) (grd (vp_in (s21.2 + 5) LS) (Option.bind (f_X11_feed s21.1 (mn M) (xS (s21.2 + 1).toNatClampNeg) (xS (s21.2 + 2).toNatClampNeg) (xS (s21.2 + 3).toNatClampNeg) (xS (s21.2 + 4).toNatClampNeg) (xS (s21.2 + 5).toNatClampNeg)) (fun q156 => grd (vp_in (s21.2 + 1) LS) (grd (vp_in (s21.2 + 2) LS) (grd (vp_in (s21.2 + 3) LS) (grd (vp_in (s21.2 + 4) LS) (grd (vp_in (s21.2 + 5) LS) (Option.bind (f_X12_feed q156.1 (mn q5) (xS (s21.2 + 1).toNatClampNeg) (xS (s21.2 + 2).toNatClampNeg) (xS (s21.2 + 3).toNatClampNeg) (xS (s21.2 + 4).toNatClampNeg) (xS (s21.2 + 5).toNatClampNeg)) (fun q167 => if q156.2 = q167.2 then (j36 q167.1) else (some (.inr (.inr q167.1)))))))))))))))), (506, grd (vp_in (s21.2 + 1) LS) (Option.bind (f_X11_end s21.1 (mn M) (xS (s21.2 + 1).toNatClampNeg)) (fun q174 => grd (vp_in (s21.2 + 1) LS) (Option.bind (f_X12_end q174.1 (mn q5) (xS (s21.2 + 1).toNatClampNeg)) (fun q181 => if q174.2 = q181.2 then (j36 q181.1) else (some (.inr (.inr q181.1)))))))), (529, Option.bind (f_X11_row s21.1 (mn M)) (fun q187 => Option.bind (f_X12_row q187.1 (mn q5)) (fun q193 => if q187.2 = q193.2 then (j36 q193.1) else (some (.inr (.inr q193.1)))))), (542, Option.bind (f_X11_burnt s21.1 (mn M)) (fun q199 => Option.bind (f_X12_burnt s21.1 (mn q5)) (fun q202 => if q199 = q202 then (j36 s21.1) else (some (.inr (.inr s21.1)))))), (555, Option.bind (f_X11_law s21.1 (mn M)) (fun q205 => Option.bind (f_X12_law q205.1 (mn q5)) (fun q211 => if q205.2 = q211.2 then (j36 q211.1) else (some (.inr (.inr q211.1)))))), (568, Option.bind (f_X11_orders s21.1 (mn M)) (fun q217 => Option.bind (f_X12_orders q217.1 (mn q5)) (fun q223 => if q217.2 = q223.2 then (j36 q223.1) else (some (.inr (.inr q223.1)))))), (581, Option.bind (f_X11_fault s21.1 (mn M)) (fun q229 => Option.bind (f_X12_fault s21.1 (mn q5)) (fun q232 => if q229 = q232 then (j36 s21.1) else (some (.inr (.inr s21.1)))))), (594, Option.bind (f_X11_stopped s21.1 (mn M)) (fun q235 => Option.bind (f_X12_stopped s21.1 (mn q5)) (fun q238 => if q235 = q238 then (j36 s21.1) else (some (.inr (.inr s21.1)))))), (607, grd (vp_in (s21.2 + 1) LS) (Option.bind (f_X11_force s21.1 (mn M) (xS (s21.2 + 1).toNatClampNeg)) (fun q242 => grd (vp_in (s21.2 + 1) LS) (Option.bind (f_X12_force q242.1 (mn q5) (xS (s21.2 + 1).toNatClampNeg)) (fun q249 => if q242.2 = q249.2 then (j36 q249.1) else (some (.inr (.inr q249.1)))))))), (630, grd (vp_in (s21.2 + 1) LS) (grd (vp_in (s21.2 + 2) LS) (grd (vp_in (s21.2 + 3) LS) (grd (vp_in (s21.2 + 4) LS) (grd (vp_in (s21.2 + 5) LS) (Option.bind (f_X11_change s21.1 (mn M) (xS (s21.2 + 1).toNatClampNeg) (xS (s21.2 + 2).toNatClampNeg) (xS (s21.2 + 3).toNatClampNeg) (xS (s21.2 + 4).toNatClampNeg) (xS (s21.2 + 5).toNatClampNeg)) (fun q260 => grd (vp_in (s21.2 + 1) LS) (grd (vp_in (s21.2 + 2) LS) (grd (vp_in (s21.2 + 3) LS) (grd (vp_in (s21.2 + 4) LS) (grd (vp_in (s21.2 + 5) LS) (Option.bind (f_X12_change q260.1 (mn q5) (xS (s21.2 + 1).toNatClampNeg) (xS (s21.2 + 2).toNatClampNeg) (xS (s21.2 + 3).toNatClampNeg) (xS (s21.2 + 4).toNatClampNeg) (xS (s21.2 + 5).toNatClampNeg)) (fun q271 => if q260.2 = q271.2 then (j36 q271.1) else (some (.inr (.inr q271.1)))))))))))))))), (693, grd (vp_in (s21.2 + 1) LS) (grd (vp_in (s21.2 + 2) LS) (Option.bind (f_X11_changes s21.1 (mn M) (xS (s21.2 + 1).toNatClampNeg) (xS (s21.2 + 2).toNatClampNeg)) (fun q279 => grd (vp_in (s21.2 + 1) LS) (grd (vp_in (s21.2 + 2) LS) (Option.bind (f_X12_changes q279.1 (mn q5) (xS (s21.2 + 1).toNatClampNeg) (xS (s21.2 + 2).toNatClampNeg)) (fun q287 => if q279.2 = q287.2 then (j36 q287.1) else (some (.inr (.inr q287.1)))))))))), (726, grd (vp_in (s21.2 + 1) LS) (grd (vp_in (s21.2 + 2) LS) (Option.bind (f_X11_steps s21.1 (mn M) (xS (s21.2 + 1).toNatClampNeg) (xS (s21.2 + 2).toNatClampNeg)) (fun q295 => grd (vp_in (s21.2 + 1) LS) (grd (vp_in (s21.2 + 2) LS) (Option.bind (f_X12_steps q295.1 (mn q5) (xS (s21.2 + 1).toNatClampNeg) (xS (s21.2 + 2).toNatClampNeg)) (fun q303 => if q295.2 = q303.2 then (j36 q303.1) else (some (.inr (.inr q303.1)))))))))), (759, grd (vp_in (s21.2 + 1) LS) (grd (vp_in (s21.2 + 2) LS) (grd (vp_in (s21.2 + 3) LS) (Option.bind (f_X11_way s21.1 (mn M) (xS (s21.2 + 1).toNatClampNeg) (xS (s21.2 + 2).toNatClampNeg) (xS (s21.2 + 3).toNatClampNeg)) (fun q312 => grd (vp_in (s21.2 + 1) LS) (grd (vp_in (s21.2 + 2) LS) (grd (vp_in (s21.2 + 3) LS) (Option.bind (f_X12_way q312.1 (mn q5) (xS (s21.2 + 1).toNatClampNeg) (xS (s21.2 + 2).toNatClampNeg) (xS (s21.2 + 3).toNatClampNeg)) (fun q321 => if q312.2 = q321.2 then (j36 q321.1) else (some (.inr (.inr q321.1)))))))))))), (802, grd (vp_in (s21.2 + 1) LS) (grd (vp_in (s21.2 + 2) LS) (Option.bind (f_X11_between s21.1 (mn M) (xS (s21.2 + 1).toNatClampNeg) (xS (s21.2 + 2).toNatClampNeg)) (fun q329 => grd (vp_in (s21.2 + 1) LS) (grd (vp_in (s21.2 + 2) LS) (Option.bind (f_X12_between q329.1 (mn q5) (xS (s21.2 + 1).toNatClampNeg) (xS (s21.2 + 2).toNatClampNeg)) (fun q337 => if q329.2 = q337.2 then (j36 q337.1) else (some (.inr (.inr q337.1)))))))))), (835, grd (vp_in (s21.2 + 1) LS) (Option.bind (f_X11_judge s21.1 (mn M) (xS (s21.2 + 1).toNatClampNeg)) (fun q344 => grd (vp_in (s21.2 + 1) LS) (Option.bind (f_X12_judge q344.1 (mn q5) (xS (s21.2 + 1).toNatClampNeg)) (fun q351 => if q344.2 = q351.2 then (j36 q351.1) else (some (.inr (.inr q351.1)))))))), (858, grd (vp_in (s21.2 + 1) LS) (Option.bind (f_X11_poor s21.1 (mn M) (xS (s21.2 + 1).toNatClampNeg)) (fun q358 => Option.bind (f_X12_poor s21.1 (mn q5) (xS (s21.2 + 1).toNatClampNeg)) (fun q361 => if q358 = q361 then (j36 s21.1) else (some (.inr (.inr s21.1))))))), (881, grd (vp_in (s21.2 + 1) LS) (grd (vp_in (s21.2 + 2) LS) (Option.bind (f_X11_first s21.1 (mn M) (xS (s21.2 + 1).toNatClampNeg) (xS (s21.2 + 2).toNatClampNeg)) (fun q366 => grd (vp_in (s21.2 + 1) LS) (grd (vp_in (s21.2 + 2) LS) (Option.bind (f_X12_first q366.1 (mn q5) (xS (s21.2 + 1).toNatClampNeg) (xS (s21.2 + 2).toNatClampNeg)) (fun q374 => if q366.2 = q374.2 then (j36 q374.1) else (some (.inr (.inr q374.1)))))))))), (914, grd (vp_in (s21.2 + 1) LS) (grd (vp_in (s21.2 + 2) LS) (Option.bind (f_X11_lines s21.1 (mn M) (xS (s21.2 + 1).toNatClampNeg) (xS (s21.2 + 2).toNatClampNeg)) (fun q382 => grd (vp_in (s21.2 + 1) LS) (grd (vp_in (s21.2 + 2) LS) (Option.bind (f_X12_lines q382.1 (mn q5) (xS (s21.2 + 1).toNatClampNeg) (xS (s21.2 + 2).toNatClampNeg)) (fun q390 => if q382.2 = q390.2 then (j36 q390.1) else (some (.inr (.inr q390.1)))))))))), (947, grd (vp_in (s21.2 + 1) LS) (grd (vp_in (s21.2 + 2) LS) (grd (vp_in (s21.2 + 3) LS) (Option.bind (f_X11_odds s21.1 (mn M) (xS (s21.2 + 1).toNatClampNeg) (xS (s21.2 + 2).toNatClampNeg) (xS (s21.2 + 3).toNatClampNeg)) (fun q399 => grd (vp_in (s21.2 + 1) LS) (grd (vp_in (s21.2 + 2) LS) (grd (vp_in (s21.2 + 3) LS) (Option.bind (f_X12_odds q399.1 (mn q5) (xS (s21.2 + 1).toNatClampNeg) (xS (s21.2 + 2).toNatClampNeg) (xS (s21.2 + 3).toNatClampNeg)) (fun q408 => if (lg_cmp q399.2 q408.2) = 0 then (j36 q408.1) else (some (.inr (.inr q408.1)))))))))))), (991, grd (vp_in (s21.2 + 1) LS) (grd (vp_in (s21.2 + 2) LS) (Option.bind (f_X11_likely s21.1 (mn M) (xS (s21.2 + 1).toNatClampNeg) (xS (s21.2 + 2).toNatClampNeg)) (fun q416 => grd (vp_in (s21.2 + 1) LS) (grd (vp_in (s21.2 + 2) LS) (Option.bind (f_X12_likely q416.1 (mn q5) (xS (s21.2 + 1).toNatClampNeg) (xS (s21.2 + 2).toNatClampNeg)) (fun q424 => if q416.2 = q424.2 then (j36 q424.1) else (some (.inr (.inr q424.1)))))))))), (1024, grd (vp_in (s21.2 + 1) LS) (grd (vp_in (s21.2 + 2) LS) (Option.bind (f_X11_tastings s21.1 (mn M) (xS (s21.2 + 1).toNatClampNeg) (xS (s21.2 + 2).toNatClampNeg)) (fun q432 => Option.bind (f_X12_tastings s21.1 (mn q5) (xS (s21.2 + 1).toNatClampNeg) (xS (s21.2 + 2).toNatClampNeg)) (fun q435 => if q432 = q435 then (j36 s21.1) else (some (.inr (.inr s21.1)))))))), (1057, grd (vp_in (s21.2 + 1) LS) (Option.bind (f_X11_copies s21.1 (mn M) (xS (s21.2 + 1).toNatClampNeg)) (fun q439 => Option.bind (f_X12_copies s21.1 (mn q5) (xS (s21.2 + 1).toNatClampNeg)) (fun q442 => if q439 = q442.2 then (j36 q442.1) else (some (.inr (.inr q442.1))))))), (1080, grd (vp_in (s21.2 + 1) LS) (Option.bind (f_X11_stood s21.1 (mn M) (xS (s21.2 + 1).toNatClampNeg)) (fun q449 => Option.bind (f_X12_stood s21.1 (mn q5) (xS (s21.2 + 1).toNatClampNeg)) (fun q452 => if q449 = q452.2 then (j36 q452.1) else (some (.inr (.inr q452.1))))))), (1103, grd (vp_in (s21.2 + 1) LS) (grd (vp_in (s21.2 + 2) LS) (grd (vp_in (s21.2 + 3) LS) (Option.bind (f_X11_line s21.1 (mn M) (xS (s21.2 + 1).toNatClampNeg) (xS (s21.2 + 2).toNatClampNeg) (xS (s21.2 + 3).toNatClampNeg)) (fun q461 => grd (vp_in (s21.2 + 1) LS) (grd (vp_in (s21.2 + 2) LS) (grd (vp_in (s21.2 + 3) LS) (Option.bind (f_X12_line q461.1 (mn q5) (xS (s21.2 + 1).toNatClampNeg) (xS (s21.2 + 2).toNatClampNeg) (xS (s21.2 + 3).toNatClampNeg)) (fun q470 => if q461.2 = q470.2 then (j36 q470.1) else (some (.inr (.inr q470.1)))))))))))), (1146, grd (vp_in (s21.2 + 1) LS) (Option.bind (f_X11_drawn s21.1 (mn M) (xS (s21.2 + 1).toNatClampNeg)) (fun q477 => Option.bind (f_X12_drawn s21.1 (mn q5) (xS (s21.2 + 1).toNatClampNeg)) (fun q480 => if q477 = q480 then (j36 s21.1) else (some (.inr (.inr s21.1))))))), (1169, grd (vp_in (s21.2 + 1) LS) (Option.bind (f_X11_image s21.1 (mn M) (xS (s21.2 + 1).toNatClampNeg)) (fun q484 => grd (vp_in (s21.2 + 1) LS) (Option.bind (f_X12_image q484.1 (mn q5) (xS (s21.2 + 1).toNatClampNeg)) (fun q491 => if q484.2 = q491.2 then (j36 q491.1) else (some (.inr (.inr q491.1)))))))), (1192, grd (vp_in (s21.2 + 1) LS) (Option.bind (f_X11_back s21.1 (mn M) (xS (s21.2 + 1).toNatClampNeg)) (fun q498 => grd (vp_in (s21.2 + 1) LS) (Option.bind (f_X12_back q498.1 (mn q5) (xS (s21.2 + 1).toNatClampNeg)) (fun q505 => if q498.2 = q505.2 then (j36 q505.1) else (some (.inr (.inr q505.1)))))))), (1215, grd (vp_in (s21.2 + 1) LS) (Option.bind (f_X11_count s21.1 (mn M) (xS (s21.2 + 1).toNatClampNeg)) (fun q512 => Option.bind (f_X12_count s21.1 (mn q5) (xS (s21.2 + 1).toNatClampNeg)) (fun q515 => if q512 = q515 then (j36 s21.1) else (some (.inr (.inr s21.1))))))), (1238, Option.bind (f_X11_status s21.1 (mn M)) (fun q518 => Option.bind (f_X12_status s21.1 (mn q5)) (fun q521 => if q518 = q521 then (j36 s21.1) else (some (.inr (.inr s21.1))))))]) (j36 s21.1))))) (q15, 0)) (Sum.elim (fun (x31 : Mem) => some (x31, 1)) (fun (x33 : Mem) => some (x33, 0)))))))
abbrev Y_L_law (nm : String) : Sta := (RL, nm, cL_law, 4, some .boolean, 400)
set_option maxRecDepth 100000 in
set_option maxHeartbeats 40000000 in
theorem t_L_law {X : Ctx} {M : Mem} {nm : String} {bS LS : Nat} {xS : Nat → Int32} (hX : va_X bS LS xS (xs X) (xs X).heap) (hbl : bS < (xs X).heap.size) (hbA : ¬ AA (xG X) bS) : S0 X (Y_L_law nm) M 0 [some (.ref bS), none, none, none] [] (Option.bind (f_L_law xS LS M) (fun q => some (q.1, some (.int q.2)))) := by
  unfold f_L_law
  refine s_new (pc := 0) F_11 kk_L_7 dL_law_0 (fun M1 hM2 => ?_)
  have h3 := le_nO hM2
  have o4 := ok_nO hM2
  refine s_dup (pc := 3) dL_law_3 rfl ?_
  refine s_bind (fun q5 hq6 => ?_)
  have hC7 := t_X11_init (l := xl X) (G := xG X) hq6
  refine s_callI (pc := 4) (As := []) (st := [.ref (gh (xG X) + (mn M))]) rfl rfl cl_X11_init wi_X11_init km_L_9 rfl rfl (nle rfl) (nle rfl) (nle rfl) dL_law_4 hC7 ?_
  have h8 := hC7.1 X
  have o9 := h8.ok o4
  show S0 X _ q5 7 [some (.ref bS), none, none, none] [.ref (gh (xG X) + (mn M))] _
  refine s_astore_n (pc := 7) 1 dL_law_7 rfl (nlt rfl) rfl (L' := [some (.ref bS), some (.ref (gh (xG X) + (mn M))), none, none]) rfl ?_
  refine s_new (pc := 8) F_12 kk_L_10 dL_law_8 (fun M10 hM11 => ?_)
  have h12 := le_nO hM11
  have o13 := h12.ok o9
  have o14 := ok_nO hM11
  refine s_dup (pc := 11) dL_law_11 rfl ?_
  refine s_bind (fun q15 hq16 => ?_)
  have hC17 := t_X12_init (l := xl X) (G := xG X) hq16
  refine s_callI (pc := 12) (As := []) (st := [.ref (gh (xG X) + (mn q5))]) rfl rfl cl_X12_init wi_X12_init km_L_12 rfl rfl (nle rfl) (nle rfl) (nle rfl) dL_law_12 hC17 ?_
  have h18 := hC17.1 X
  have o19 := h18.ok o13
  have o20 := h18.ok o14
  show S0 X _ q15 15 [some (.ref bS), some (.ref (gh (xG X) + (mn M))), none, none] [.ref (gh (xG X) + (mn q5))] _
  refine s_astore_n (pc := 15) 2 dL_law_15 rfl (nlt rfl) rfl (L' := [some (.ref bS), some (.ref (gh (xG X) + (mn M))), some (.ref (gh (xG X) + (mn q5))), none]) rfl ?_
  refine s_iconst (pc := 16) 0 dL_law_16 kc_0 ?_
  refine s_istore_n (pc := 17) 3 dL_law_17 rfl (nlt rfl) rfl (L' := [some (.ref bS), some (.ref (gh (xG X) + (mn M))), some (.ref (gh (xG X) + (mn q5))), some (.int 0)]) rfl ?_
  refine s_drop (L' := [some (.ref bS), some (.ref (gh (xG X) + (mn M))), some (.ref (gh (xG X) + (mn q5))), some (.int 0)]) ?_ (And.intro rfl (And.intro rfl (And.intro rfl (And.intro rfl trivial))))
  refine s_loopL q15 (fun s21 : Mem × Int32 => s21.1) (fun s21 : Mem × Int32 => [some (.ref bS), some (.ref (gh (xG X) + (mn M))), some (.ref (gh (xG X) + (mn q5))), some (.int s21.2)]) (fun x31 : Mem => x31) 1257 (fun x31 : Mem => [none, none, none, none]) (fun x33 : Mem => x33) [1249, 1236, 1213, 1190, 1167, 1144, 1101, 1078, 1055, 1022, 989, 945, 912, 879, 856, 833, 800, 757, 724, 691, 628, 605, 592, 579, 566, 553, 540, 527, 504, 441, 408, 375, 362, 309, 266, 233] (fun x33 : Mem => [none, none, none, none]) (fun x31 hx32 => ?_) ?_ (fun T23 R25 R27 hT24 hR26 hR28 s21 hs22 => ?_) (q15, 0) Le.rf
  · show S0 X _ x31 1257 [none, none, none, none] [] _
    refine s_iconst (pc := 1257) 1 dL_law_1257 kc_1 ?_
    exact s_zret rfl rfl dL_law_1258
  · refine all_list ?_
    refine (And.intro ?_ (And.intro ?_ (And.intro ?_ (And.intro ?_ (And.intro ?_ (And.intro ?_ (And.intro ?_ (And.intro ?_ (And.intro ?_ (And.intro ?_ (And.intro ?_ (And.intro ?_ (And.intro ?_ (And.intro ?_ (And.intro ?_ (And.intro ?_ (And.intro ?_ (And.intro ?_ (And.intro ?_ (And.intro ?_ (And.intro ?_ (And.intro ?_ (And.intro ?_ (And.intro ?_ (And.intro ?_ (And.intro ?_ (And.intro ?_ (And.intro ?_ (And.intro ?_ (And.intro ?_ (And.intro ?_ (And.intro ?_ (And.intro ?_ (And.intro ?_ (And.intro ?_ (And.intro ?_ trivial))))))))))))))))))))))))))))))))))))
    · intro x33 hx34
      show S0 X _ x33 1249 [none, none, none, none] [] _
      refine s_iconst (pc := 1249) 0 dL_law_1249 kc_0 ?_
      exact s_zret rfl rfl dL_law_1250
    · intro x33 hx34
      show S0 X _ x33 1236 [none, none, none, none] [] _
      refine s_iconst (pc := 1236) 0 dL_law_1236 kc_0 ?_
      exact s_zret rfl rfl dL_law_1237
    · intro x33 hx34
      show S0 X _ x33 1213 [none, none, none, none] [] _
      refine s_iconst (pc := 1213) 0 dL_law_1213 kc_0 ?_
      exact s_zret rfl rfl dL_law_1214
    · intro x33 hx34
      show S0 X _ x33 1190 [none, none, none, none] [] _
      refine s_iconst (pc := 1190) 0 dL_law_1190 kc_0 ?_
      exact s_zret rfl rfl dL_law_1191
    · intro x33 hx34
      show S0 X _ x33 1167 [none, none, none, none] [] _
      refine s_iconst (pc := 1167) 0 dL_law_1167 kc_0 ?_
      exact s_zret rfl rfl dL_law_1168
    · intro x33 hx34
      show S0 X _ x33 1144 [none, none, none, none] [] _
      refine s_iconst (pc := 1144) 0 dL_law_1144 kc_0 ?_
      exact s_zret rfl rfl dL_law_1145
    · intro x33 hx34
      show S0 X _ x33 1101 [none, none, none, none] [] _
      refine s_iconst (pc := 1101) 0 dL_law_1101 kc_0 ?_
      exact s_zret rfl rfl dL_law_1102
    · intro x33 hx34
      show S0 X _ x33 1078 [none, none, none, none] [] _
      refine s_iconst (pc := 1078) 0 dL_law_1078 kc_0 ?_
      exact s_zret rfl rfl dL_law_1079
    · intro x33 hx34
      show S0 X _ x33 1055 [none, none, none, none] [] _
      refine s_iconst (pc := 1055) 0 dL_law_1055 kc_0 ?_
      exact s_zret rfl rfl dL_law_1056
    · intro x33 hx34
      show S0 X _ x33 1022 [none, none, none, none] [] _
      refine s_iconst (pc := 1022) 0 dL_law_1022 kc_0 ?_
      exact s_zret rfl rfl dL_law_1023
    · intro x33 hx34
      show S0 X _ x33 989 [none, none, none, none] [] _
      refine s_iconst (pc := 989) 0 dL_law_989 kc_0 ?_
      exact s_zret rfl rfl dL_law_990
    · intro x33 hx34
      show S0 X _ x33 945 [none, none, none, none] [] _
      refine s_iconst (pc := 945) 0 dL_law_945 kc_0 ?_
      exact s_zret rfl rfl dL_law_946
    · intro x33 hx34
      show S0 X _ x33 912 [none, none, none, none] [] _
      refine s_iconst (pc := 912) 0 dL_law_912 kc_0 ?_
      exact s_zret rfl rfl dL_law_913
    · intro x33 hx34
      show S0 X _ x33 879 [none, none, none, none] [] _
      refine s_iconst (pc := 879) 0 dL_law_879 kc_0 ?_
      exact s_zret rfl rfl dL_law_880
    · intro x33 hx34
      show S0 X _ x33 856 [none, none, none, none] [] _
      refine s_iconst (pc := 856) 0 dL_law_856 kc_0 ?_
      exact s_zret rfl rfl dL_law_857
    · intro x33 hx34
      show S0 X _ x33 833 [none, none, none, none] [] _
      refine s_iconst (pc := 833) 0 dL_law_833 kc_0 ?_
      exact s_zret rfl rfl dL_law_834
    · intro x33 hx34
      show S0 X _ x33 800 [none, none, none, none] [] _
      refine s_iconst (pc := 800) 0 dL_law_800 kc_0 ?_
      exact s_zret rfl rfl dL_law_801
    · intro x33 hx34
      show S0 X _ x33 757 [none, none, none, none] [] _
      refine s_iconst (pc := 757) 0 dL_law_757 kc_0 ?_
      exact s_zret rfl rfl dL_law_758
    · intro x33 hx34
      show S0 X _ x33 724 [none, none, none, none] [] _
      refine s_iconst (pc := 724) 0 dL_law_724 kc_0 ?_
      exact s_zret rfl rfl dL_law_725
    · intro x33 hx34
      show S0 X _ x33 691 [none, none, none, none] [] _
      refine s_iconst (pc := 691) 0 dL_law_691 kc_0 ?_
      exact s_zret rfl rfl dL_law_692
    · intro x33 hx34
      show S0 X _ x33 628 [none, none, none, none] [] _
      refine s_iconst (pc := 628) 0 dL_law_628 kc_0 ?_
      exact s_zret rfl rfl dL_law_629
    · intro x33 hx34
      show S0 X _ x33 605 [none, none, none, none] [] _
      refine s_iconst (pc := 605) 0 dL_law_605 kc_0 ?_
      exact s_zret rfl rfl dL_law_606
    · intro x33 hx34
      show S0 X _ x33 592 [none, none, none, none] [] _
      refine s_iconst (pc := 592) 0 dL_law_592 kc_0 ?_
      exact s_zret rfl rfl dL_law_593
    · intro x33 hx34
      show S0 X _ x33 579 [none, none, none, none] [] _
      refine s_iconst (pc := 579) 0 dL_law_579 kc_0 ?_
      exact s_zret rfl rfl dL_law_580
    · intro x33 hx34
      show S0 X _ x33 566 [none, none, none, none] [] _
      refine s_iconst (pc := 566) 0 dL_law_566 kc_0 ?_
      exact s_zret rfl rfl dL_law_567
    · intro x33 hx34
      show S0 X _ x33 553 [none, none, none, none] [] _
      refine s_iconst (pc := 553) 0 dL_law_553 kc_0 ?_
      exact s_zret rfl rfl dL_law_554
    · intro x33 hx34
      show S0 X _ x33 540 [none, none, none, none] [] _
      refine s_iconst (pc := 540) 0 dL_law_540 kc_0 ?_
      exact s_zret rfl rfl dL_law_541
    · intro x33 hx34
      show S0 X _ x33 527 [none, none, none, none] [] _
      refine s_iconst (pc := 527) 0 dL_law_527 kc_0 ?_
      exact s_zret rfl rfl dL_law_528
    · intro x33 hx34
      show S0 X _ x33 504 [none, none, none, none] [] _
      refine s_iconst (pc := 504) 0 dL_law_504 kc_0 ?_
      exact s_zret rfl rfl dL_law_505
    · intro x33 hx34
      show S0 X _ x33 441 [none, none, none, none] [] _
      refine s_iconst (pc := 441) 0 dL_law_441 kc_0 ?_
      exact s_zret rfl rfl dL_law_442
    · intro x33 hx34
      show S0 X _ x33 408 [none, none, none, none] [] _
      refine s_iconst (pc := 408) 0 dL_law_408 kc_0 ?_
      exact s_zret rfl rfl dL_law_409
    · intro x33 hx34
      show S0 X _ x33 375 [none, none, none, none] [] _
      refine s_iconst (pc := 375) 0 dL_law_375 kc_0 ?_
      exact s_zret rfl rfl dL_law_376
    · intro x33 hx34
      show S0 X _ x33 362 [none, none, none, none] [] _
      refine s_iconst (pc := 362) 0 dL_law_362 kc_0 ?_
      exact s_zret rfl rfl dL_law_363
    · intro x33 hx34
      show S0 X _ x33 309 [none, none, none, none] [] _
      refine s_iconst (pc := 309) 0 dL_law_309 kc_0 ?_
      exact s_zret rfl rfl dL_law_310
    · intro x33 hx34
      show S0 X _ x33 266 [none, none, none, none] [] _
      refine s_iconst (pc := 266) 0 dL_law_266 kc_0 ?_
      exact s_zret rfl rfl dL_law_267
    · intro x33 hx34
      show S0 X _ x33 233 [none, none, none, none] [] _
      refine s_iconst (pc := 233) 0 dL_law_233 kc_0 ?_
      exact s_zret rfl rfl dL_law_234
  · show S0 X _ s21.1 18 [some (.ref bS), some (.ref (gh (xG X) + (mn M))), some (.ref (gh (xG X) + (mn q5))), some (.int s21.2)] [] _
    have o29 := hs22.ok o19
    have o30 := hs22.ok o20
    refine s_iload_n (pc := 18) 3 dL_law_18 rfl rfl ?_
    refine s_aload_n (pc := 19) 0 dL_law_19 rfl rfl ?_
    refine s_slen (pc := 20) hX hbl hbA dL_law_20 ?_
    refine s_bipush (pc := 21) 6 dL_law_21 kb_6 ?_
    refine s_isub (pc := 23) dL_law_23 ?_
    refine s_icgt (pc := 24) 1257 dL_law_24 rfl ?_ ?_
    · exact s_drop (hR26 s21.1 hs22) trivial
    · refine s_aload_n (pc := 27) 0 dL_law_27 rfl rfl ?_
      refine s_iload_n (pc := 28) 3 dL_law_28 rfl rfl ?_
      refine s_grd (fun i35 => ?_)
      refine s_sld (pc := 29) hX hbl hbA i35 dL_law_29 ?_
      refine s_bipush (pc := 30) 63 dL_law_30 kb_63 ?_
      refine s_iand (pc := 32) dL_law_32 ?_
      refine s_join s21.1 (fun s37 : Mem => s37) 1251 (fun s37 : Mem => [some (.ref bS), some (.ref (gh (xG X) + (mn M))), some (.ref (gh (xG X) + (mn q5))), some (.int s21.2)]) (fun s37 : Mem => []) (fun s37 hs38 => ?_) (fun j36 hj39 => ?_)
      · show S0 X _ s37 1251 [some (.ref bS), some (.ref (gh (xG X) + (mn M))), some (.ref (gh (xG X) + (mn q5))), some (.int s21.2)] [] _
        have o40 := hs38.ok o29
        have o41 := hs38.ok o30
        refine s_iinc (pc := 1251) dL_law_1251 rfl (v := s21.2 + 6) (congrArg (fun z : Int32 => s21.2 + z) kc_6) (nlt rfl) rfl (L' := [some (.ref bS), some (.ref (gh (xG X) + (mn M))), some (.ref (gh (xG X) + (mn q5))), some (.int (s21.2 + 6))]) rfl ?_
        refine s_bv (fun x42 : Int32 => [some (.ref bS), some (.ref (gh (xG X) + (mn M))), some (.ref (gh (xG X) + (mn q5))), some (.int x42)]) (fun x42 => ?_) rfl
        refine s_goto (pc := 1254) 18 dL_law_1254 rfl ?_
        exact s_drop (hT24 (s37, x42) (hs22.tr hs38)) (And.intro rfl (And.intro rfl (And.intro rfl (And.intro rfl trivial))))
      · refine s_tsw (pc := 33) _ 1251 dL_law_33 rfl rfl (And.intro (by decide) (And.intro (by simp only [List.length_cons, List.length_nil]; decide) rfl)) ?_ ?_
        · refine (And.intro ?_ (And.intro ?_ (And.intro ?_ (And.intro ?_ (And.intro ?_ (And.intro ?_ (And.intro ?_ (And.intro ?_ (And.intro ?_ (And.intro ?_ (And.intro ?_ (And.intro ?_ (And.intro ?_ (And.intro ?_ (And.intro ?_ (And.intro ?_ (And.intro ?_ (And.intro ?_ (And.intro ?_ (And.intro ?_ (And.intro ?_ (And.intro ?_ (And.intro ?_ (And.intro ?_ (And.intro ?_ (And.intro ?_ (And.intro ?_ (And.intro ?_ (And.intro ?_ (And.intro ?_ (And.intro ?_ (And.intro ?_ (And.intro ?_ (And.intro ?_ (And.intro ?_ (And.intro ?_ trivial))))))))))))))))))))))))))))))))))))
          · dsimp only
            refine s_aload_n (pc := 192) 1 dL_law_192 rfl rfl ?_
            refine s_aload_n (pc := 193) 0 dL_law_193 rfl rfl ?_
            refine s_iload_n (pc := 194) 3 dL_law_194 rfl rfl ?_
            refine s_iconst (pc := 195) 1 dL_law_195 kc_1 ?_
            refine s_iadd (pc := 196) dL_law_196 ?_
            refine s_grd (fun i43 => ?_)
            refine s_sld (pc := 197) hX hbl hbA i43 dL_law_197 ?_
            refine s_aload_n (pc := 198) 0 dL_law_198 rfl rfl ?_
            refine s_iload_n (pc := 199) 3 dL_law_199 rfl rfl ?_
            refine s_iconst (pc := 200) 2 dL_law_200 kc_2 ?_
            refine s_iadd (pc := 201) dL_law_201 ?_
            refine s_grd (fun i44 => ?_)
            refine s_sld (pc := 202) hX hbl hbA i44 dL_law_202 ?_
            refine s_aload_n (pc := 203) 0 dL_law_203 rfl rfl ?_
            refine s_iload_n (pc := 204) 3 dL_law_204 rfl rfl ?_
            refine s_iconst (pc := 205) 3 dL_law_205 kc_3 ?_
            refine s_iadd (pc := 206) dL_law_206 ?_
            refine s_grd (fun i45 => ?_)
            refine s_sld (pc := 207) hX hbl hbA i45 dL_law_207 ?_
            refine s_bind (fun q46 hq47 => ?_)
            have hC48 := t_X11_put (l := xl X) (G := xG X) hq47
            refine s_callV (pc := 208) (As := [.int (xS (s21.2 + 1).toNatClampNeg), .int (xS (s21.2 + 2).toNatClampNeg), .int (xS (s21.2 + 3).toNatClampNeg)]) (st := []) (nlt rfl) (q := (RX11, TX11, 16)) rfl rfl o29 cl_X11_put wi_X11_put wl_X11_put km_L_13 rfl rfl (nle rfl) (nle rfl) (nle rfl) dL_law_208 hC48 ?_
            have h49 := hC48.1 X
            have o50 := h49.ok o29
            have o51 := h49.ok o30
            show S0 X _ q46.1 211 [some (.ref bS), some (.ref (gh (xG X) + (mn M))), some (.ref (gh (xG X) + (mn q5))), some (.int s21.2)] [.int q46.2] _
            refine s_aload_n (pc := 211) 2 dL_law_211 rfl rfl ?_
            refine s_aload_n (pc := 212) 0 dL_law_212 rfl rfl ?_
            refine s_iload_n (pc := 213) 3 dL_law_213 rfl rfl ?_
            refine s_iconst (pc := 214) 1 dL_law_214 kc_1 ?_
            refine s_iadd (pc := 215) dL_law_215 ?_
            refine s_grd (fun i52 => ?_)
            refine s_sld (pc := 216) hX hbl hbA i52 dL_law_216 ?_
            refine s_aload_n (pc := 217) 0 dL_law_217 rfl rfl ?_
            refine s_iload_n (pc := 218) 3 dL_law_218 rfl rfl ?_
            refine s_iconst (pc := 219) 2 dL_law_219 kc_2 ?_
            refine s_iadd (pc := 220) dL_law_220 ?_
            refine s_grd (fun i53 => ?_)
            refine s_sld (pc := 221) hX hbl hbA i53 dL_law_221 ?_
            refine s_aload_n (pc := 222) 0 dL_law_222 rfl rfl ?_
            refine s_iload_n (pc := 223) 3 dL_law_223 rfl rfl ?_
            refine s_iconst (pc := 224) 3 dL_law_224 kc_3 ?_
            refine s_iadd (pc := 225) dL_law_225 ?_
            refine s_grd (fun i54 => ?_)
            refine s_sld (pc := 226) hX hbl hbA i54 dL_law_226 ?_
            refine s_bind (fun q55 hq56 => ?_)
            have hC57 := t_X12_put (l := xl X) (G := xG X) hq56
            refine s_callV (pc := 227) (As := [.int (xS (s21.2 + 1).toNatClampNeg), .int (xS (s21.2 + 2).toNatClampNeg), .int (xS (s21.2 + 3).toNatClampNeg)]) (st := [.int q46.2]) (nlt rfl) (q := (RX12, TX12, 59)) rfl rfl o51 cl_X12_put wi_X12_put wl_X12_put km_L_17 rfl rfl (nle rfl) (nle rfl) (nle rfl) dL_law_227 hC57 ?_
            have h58 := hC57.1 X
            have o59 := h58.ok o50
            have o60 := h58.ok o51
            show S0 X _ q55.1 230 [some (.ref bS), some (.ref (gh (xG X) + (mn M))), some (.ref (gh (xG X) + (mn q5))), some (.int s21.2)] [.int q55.2, .int q46.2] _
            refine s_iceq (pc := 230) 1251 dL_law_230 rfl ?_ ?_
            · exact s_drop (hj39 q55.1 (h49.tr h58)) (And.intro rfl (And.intro rfl (And.intro rfl (And.intro rfl trivial))))
            · exact s_drop (hR28 233 (List.mem_of_getElem? (i := 35) rfl) q55.1 (hs22.tr (h49.tr h58))) trivial
          · dsimp only
            refine s_aload_n (pc := 235) 1 dL_law_235 rfl rfl ?_
            refine s_aload_n (pc := 236) 0 dL_law_236 rfl rfl ?_
            refine s_iload_n (pc := 237) 3 dL_law_237 rfl rfl ?_
            refine s_iconst (pc := 238) 1 dL_law_238 kc_1 ?_
            refine s_iadd (pc := 239) dL_law_239 ?_
            refine s_grd (fun i61 => ?_)
            refine s_sld (pc := 240) hX hbl hbA i61 dL_law_240 ?_
            refine s_aload_n (pc := 241) 0 dL_law_241 rfl rfl ?_
            refine s_iload_n (pc := 242) 3 dL_law_242 rfl rfl ?_
            refine s_iconst (pc := 243) 2 dL_law_243 kc_2 ?_
            refine s_iadd (pc := 244) dL_law_244 ?_
            refine s_grd (fun i62 => ?_)
            refine s_sld (pc := 245) hX hbl hbA i62 dL_law_245 ?_
            refine s_bind (fun q63 hq64 => ?_)
            have hC65 := t_X11_of (l := xl X) (G := xG X) hq64
            refine s_callV (pc := 246) (As := [.int (xS (s21.2 + 1).toNatClampNeg), .int (xS (s21.2 + 2).toNatClampNeg)]) (st := []) (nlt rfl) (q := (RX11, TX11, 16)) rfl rfl o29 cl_X11_of wi_X11_of wl_X11_of km_L_18 rfl rfl (nle rfl) (nle rfl) (nle rfl) dL_law_246 hC65 ?_
            show S0 X _ s21.1 249 [some (.ref bS), some (.ref (gh (xG X) + (mn M))), some (.ref (gh (xG X) + (mn q5))), some (.int s21.2)] [.int q63] _
            refine s_aload_n (pc := 249) 2 dL_law_249 rfl rfl ?_
            refine s_aload_n (pc := 250) 0 dL_law_250 rfl rfl ?_
            refine s_iload_n (pc := 251) 3 dL_law_251 rfl rfl ?_
            refine s_iconst (pc := 252) 1 dL_law_252 kc_1 ?_
            refine s_iadd (pc := 253) dL_law_253 ?_
            refine s_sld (pc := 254) hX hbl hbA i61 dL_law_254 ?_
            refine s_aload_n (pc := 255) 0 dL_law_255 rfl rfl ?_
            refine s_iload_n (pc := 256) 3 dL_law_256 rfl rfl ?_
            refine s_iconst (pc := 257) 2 dL_law_257 kc_2 ?_
            refine s_iadd (pc := 258) dL_law_258 ?_
            refine s_sld (pc := 259) hX hbl hbA i62 dL_law_259 ?_
            refine s_bind (fun q66 hq67 => ?_)
            have hC68 := t_X12_of (l := xl X) (G := xG X) hq67
            refine s_callV (pc := 260) (As := [.int (xS (s21.2 + 1).toNatClampNeg), .int (xS (s21.2 + 2).toNatClampNeg)]) (st := [.int q63]) (nlt rfl) (q := (RX12, TX12, 59)) rfl rfl o30 cl_X12_of wi_X12_of wl_X12_of km_L_22 rfl rfl (nle rfl) (nle rfl) (nle rfl) dL_law_260 hC68 ?_
            show S0 X _ s21.1 263 [some (.ref bS), some (.ref (gh (xG X) + (mn M))), some (.ref (gh (xG X) + (mn q5))), some (.int s21.2)] [.int q66, .int q63] _
            refine s_iceq (pc := 263) 1251 dL_law_263 rfl ?_ ?_
            · exact s_drop (hj39 s21.1 Le.rf) (And.intro rfl (And.intro rfl (And.intro rfl (And.intro rfl trivial))))
            · exact s_drop (hR28 266 (List.mem_of_getElem? (i := 34) rfl) s21.1 hs22) trivial
          · dsimp only
            refine s_aload_n (pc := 268) 1 dL_law_268 rfl rfl ?_
            refine s_aload_n (pc := 269) 0 dL_law_269 rfl rfl ?_
            refine s_iload_n (pc := 270) 3 dL_law_270 rfl rfl ?_
            refine s_iconst (pc := 271) 1 dL_law_271 kc_1 ?_
            refine s_iadd (pc := 272) dL_law_272 ?_
            refine s_grd (fun i69 => ?_)
            refine s_sld (pc := 273) hX hbl hbA i69 dL_law_273 ?_
            refine s_aload_n (pc := 274) 0 dL_law_274 rfl rfl ?_
            refine s_iload_n (pc := 275) 3 dL_law_275 rfl rfl ?_
            refine s_iconst (pc := 276) 2 dL_law_276 kc_2 ?_
            refine s_iadd (pc := 277) dL_law_277 ?_
            refine s_grd (fun i70 => ?_)
            refine s_sld (pc := 278) hX hbl hbA i70 dL_law_278 ?_
            refine s_aload_n (pc := 279) 0 dL_law_279 rfl rfl ?_
            refine s_iload_n (pc := 280) 3 dL_law_280 rfl rfl ?_
            refine s_iconst (pc := 281) 3 dL_law_281 kc_3 ?_
            refine s_iadd (pc := 282) dL_law_282 ?_
            refine s_grd (fun i71 => ?_)
            refine s_sld (pc := 283) hX hbl hbA i71 dL_law_283 ?_
            refine s_bind (fun q72 hq73 => ?_)
            have hC74 := t_X11_house (l := xl X) (G := xG X) hq73
            refine s_callV (pc := 284) (As := [.int (xS (s21.2 + 1).toNatClampNeg), .int (xS (s21.2 + 2).toNatClampNeg), .int (xS (s21.2 + 3).toNatClampNeg)]) (st := []) (nlt rfl) (q := (RX11, TX11, 16)) rfl rfl o29 cl_X11_house wi_X11_house wl_X11_house km_L_23 rfl rfl (nle rfl) (nle rfl) (nle rfl) dL_law_284 hC74 ?_
            have h75 := hC74.1 X
            have o76 := h75.ok o29
            have o77 := h75.ok o30
            show S0 X _ q72.1 287 [some (.ref bS), some (.ref (gh (xG X) + (mn M))), some (.ref (gh (xG X) + (mn q5))), some (.int s21.2)] [.int q72.2] _
            refine s_aload_n (pc := 287) 2 dL_law_287 rfl rfl ?_
            refine s_aload_n (pc := 288) 0 dL_law_288 rfl rfl ?_
            refine s_iload_n (pc := 289) 3 dL_law_289 rfl rfl ?_
            refine s_iconst (pc := 290) 1 dL_law_290 kc_1 ?_
            refine s_iadd (pc := 291) dL_law_291 ?_
            refine s_grd (fun i78 => ?_)
            refine s_sld (pc := 292) hX hbl hbA i78 dL_law_292 ?_
            refine s_aload_n (pc := 293) 0 dL_law_293 rfl rfl ?_
            refine s_iload_n (pc := 294) 3 dL_law_294 rfl rfl ?_
            refine s_iconst (pc := 295) 2 dL_law_295 kc_2 ?_
            refine s_iadd (pc := 296) dL_law_296 ?_
            refine s_grd (fun i79 => ?_)
            refine s_sld (pc := 297) hX hbl hbA i79 dL_law_297 ?_
            refine s_aload_n (pc := 298) 0 dL_law_298 rfl rfl ?_
            refine s_iload_n (pc := 299) 3 dL_law_299 rfl rfl ?_
            refine s_iconst (pc := 300) 3 dL_law_300 kc_3 ?_
            refine s_iadd (pc := 301) dL_law_301 ?_
            refine s_grd (fun i80 => ?_)
            refine s_sld (pc := 302) hX hbl hbA i80 dL_law_302 ?_
            refine s_bind (fun q81 hq82 => ?_)
            have hC83 := t_X12_house (l := xl X) (G := xG X) hq82
            refine s_callV (pc := 303) (As := [.int (xS (s21.2 + 1).toNatClampNeg), .int (xS (s21.2 + 2).toNatClampNeg), .int (xS (s21.2 + 3).toNatClampNeg)]) (st := [.int q72.2]) (nlt rfl) (q := (RX12, TX12, 59)) rfl rfl o77 cl_X12_house wi_X12_house wl_X12_house km_L_26 rfl rfl (nle rfl) (nle rfl) (nle rfl) dL_law_303 hC83 ?_
            have h84 := hC83.1 X
            have o85 := h84.ok o76
            have o86 := h84.ok o77
            show S0 X _ q81.1 306 [some (.ref bS), some (.ref (gh (xG X) + (mn M))), some (.ref (gh (xG X) + (mn q5))), some (.int s21.2)] [.int q81.2, .int q72.2] _
            refine s_iceq (pc := 306) 1251 dL_law_306 rfl ?_ ?_
            · exact s_drop (hj39 q81.1 (h75.tr h84)) (And.intro rfl (And.intro rfl (And.intro rfl (And.intro rfl trivial))))
            · exact s_drop (hR28 309 (List.mem_of_getElem? (i := 33) rfl) q81.1 (hs22.tr (h75.tr h84))) trivial
          · dsimp only
            refine s_aload_n (pc := 311) 1 dL_law_311 rfl rfl ?_
            refine s_aload_n (pc := 312) 0 dL_law_312 rfl rfl ?_
            refine s_iload_n (pc := 313) 3 dL_law_313 rfl rfl ?_
            refine s_iconst (pc := 314) 1 dL_law_314 kc_1 ?_
            refine s_iadd (pc := 315) dL_law_315 ?_
            refine s_grd (fun i87 => ?_)
            refine s_sld (pc := 316) hX hbl hbA i87 dL_law_316 ?_
            refine s_aload_n (pc := 317) 0 dL_law_317 rfl rfl ?_
            refine s_iload_n (pc := 318) 3 dL_law_318 rfl rfl ?_
            refine s_iconst (pc := 319) 2 dL_law_319 kc_2 ?_
            refine s_iadd (pc := 320) dL_law_320 ?_
            refine s_grd (fun i88 => ?_)
            refine s_sld (pc := 321) hX hbl hbA i88 dL_law_321 ?_
            refine s_aload_n (pc := 322) 0 dL_law_322 rfl rfl ?_
            refine s_iload_n (pc := 323) 3 dL_law_323 rfl rfl ?_
            refine s_iconst (pc := 324) 3 dL_law_324 kc_3 ?_
            refine s_iadd (pc := 325) dL_law_325 ?_
            refine s_grd (fun i89 => ?_)
            refine s_sld (pc := 326) hX hbl hbA i89 dL_law_326 ?_
            refine s_aload_n (pc := 327) 0 dL_law_327 rfl rfl ?_
            refine s_iload_n (pc := 328) 3 dL_law_328 rfl rfl ?_
            refine s_iconst (pc := 329) 4 dL_law_329 kc_4 ?_
            refine s_iadd (pc := 330) dL_law_330 ?_
            refine s_grd (fun i90 => ?_)
            refine s_sld (pc := 331) hX hbl hbA i90 dL_law_331 ?_
            refine s_bind (fun q91 hq92 => ?_)
            have hC93 := t_X11_born (l := xl X) (G := xG X) hq92
            refine s_callV (pc := 332) (As := [.int (xS (s21.2 + 1).toNatClampNeg), .int (xS (s21.2 + 2).toNatClampNeg), .int (xS (s21.2 + 3).toNatClampNeg), .int (xS (s21.2 + 4).toNatClampNeg)]) (st := []) (nlt rfl) (q := (RX11, TX11, 16)) rfl rfl o29 cl_X11_born wi_X11_born wl_X11_born km_L_27 rfl rfl (nle rfl) (nle rfl) (nle rfl) dL_law_332 hC93 ?_
            have h94 := hC93.1 X
            have o95 := h94.ok o29
            have o96 := h94.ok o30
            show S0 X _ q91.1 335 [some (.ref bS), some (.ref (gh (xG X) + (mn M))), some (.ref (gh (xG X) + (mn q5))), some (.int s21.2)] [.int q91.2] _
            refine s_aload_n (pc := 335) 2 dL_law_335 rfl rfl ?_
            refine s_aload_n (pc := 336) 0 dL_law_336 rfl rfl ?_
            refine s_iload_n (pc := 337) 3 dL_law_337 rfl rfl ?_
            refine s_iconst (pc := 338) 1 dL_law_338 kc_1 ?_
            refine s_iadd (pc := 339) dL_law_339 ?_
            refine s_grd (fun i97 => ?_)
            refine s_sld (pc := 340) hX hbl hbA i97 dL_law_340 ?_
            refine s_aload_n (pc := 341) 0 dL_law_341 rfl rfl ?_
            refine s_iload_n (pc := 342) 3 dL_law_342 rfl rfl ?_
            refine s_iconst (pc := 343) 2 dL_law_343 kc_2 ?_
            refine s_iadd (pc := 344) dL_law_344 ?_
            refine s_grd (fun i98 => ?_)
            refine s_sld (pc := 345) hX hbl hbA i98 dL_law_345 ?_
            refine s_aload_n (pc := 346) 0 dL_law_346 rfl rfl ?_
            refine s_iload_n (pc := 347) 3 dL_law_347 rfl rfl ?_
            refine s_iconst (pc := 348) 3 dL_law_348 kc_3 ?_
            refine s_iadd (pc := 349) dL_law_349 ?_
            refine s_grd (fun i99 => ?_)
            refine s_sld (pc := 350) hX hbl hbA i99 dL_law_350 ?_
            refine s_aload_n (pc := 351) 0 dL_law_351 rfl rfl ?_
            refine s_iload_n (pc := 352) 3 dL_law_352 rfl rfl ?_
            refine s_iconst (pc := 353) 4 dL_law_353 kc_4 ?_
            refine s_iadd (pc := 354) dL_law_354 ?_
            refine s_grd (fun i100 => ?_)
            refine s_sld (pc := 355) hX hbl hbA i100 dL_law_355 ?_
            refine s_bind (fun q101 hq102 => ?_)
            have hC103 := t_X12_born (l := xl X) (G := xG X) hq102
            refine s_callV (pc := 356) (As := [.int (xS (s21.2 + 1).toNatClampNeg), .int (xS (s21.2 + 2).toNatClampNeg), .int (xS (s21.2 + 3).toNatClampNeg), .int (xS (s21.2 + 4).toNatClampNeg)]) (st := [.int q91.2]) (nlt rfl) (q := (RX12, TX12, 59)) rfl rfl o96 cl_X12_born wi_X12_born wl_X12_born km_L_31 rfl rfl (nle rfl) (nle rfl) (nle rfl) dL_law_356 hC103 ?_
            have h104 := hC103.1 X
            have o105 := h104.ok o95
            have o106 := h104.ok o96
            show S0 X _ q101.1 359 [some (.ref bS), some (.ref (gh (xG X) + (mn M))), some (.ref (gh (xG X) + (mn q5))), some (.int s21.2)] [.int q101.2, .int q91.2] _
            refine s_iceq (pc := 359) 1251 dL_law_359 rfl ?_ ?_
            · exact s_drop (hj39 q101.1 (h94.tr h104)) (And.intro rfl (And.intro rfl (And.intro rfl (And.intro rfl trivial))))
            · exact s_drop (hR28 362 (List.mem_of_getElem? (i := 32) rfl) q101.1 (hs22.tr (h94.tr h104))) trivial
          · dsimp only
            refine s_aload_n (pc := 364) 1 dL_law_364 rfl rfl ?_
            refine s_bind (fun q107 hq108 => ?_)
            have hC109 := t_X11_undo (l := xl X) (G := xG X) hq108
            refine s_callV (pc := 365) (As := []) (st := []) (nlt rfl) (q := (RX11, TX11, 16)) rfl rfl o29 cl_X11_undo wi_X11_undo wl_X11_undo km_L_32 rfl rfl (nle rfl) (nle rfl) (nle rfl) dL_law_365 hC109 ?_
            have h110 := hC109.1 X
            have o111 := h110.ok o29
            have o112 := h110.ok o30
            show S0 X _ q107.1 368 [some (.ref bS), some (.ref (gh (xG X) + (mn M))), some (.ref (gh (xG X) + (mn q5))), some (.int s21.2)] [.int q107.2] _
            refine s_aload_n (pc := 368) 2 dL_law_368 rfl rfl ?_
            refine s_bind (fun q113 hq114 => ?_)
            have hC115 := t_X12_undo (l := xl X) (G := xG X) hq114
            refine s_callV (pc := 369) (As := []) (st := [.int q107.2]) (nlt rfl) (q := (RX12, TX12, 59)) rfl rfl o112 cl_X12_undo wi_X12_undo wl_X12_undo km_L_36 rfl rfl (nle rfl) (nle rfl) (nle rfl) dL_law_369 hC115 ?_
            have h116 := hC115.1 X
            have o117 := h116.ok o111
            have o118 := h116.ok o112
            show S0 X _ q113.1 372 [some (.ref bS), some (.ref (gh (xG X) + (mn M))), some (.ref (gh (xG X) + (mn q5))), some (.int s21.2)] [.int q113.2, .int q107.2] _
            refine s_iceq (pc := 372) 1251 dL_law_372 rfl ?_ ?_
            · exact s_drop (hj39 q113.1 (h110.tr h116)) (And.intro rfl (And.intro rfl (And.intro rfl (And.intro rfl trivial))))
            · exact s_drop (hR28 375 (List.mem_of_getElem? (i := 31) rfl) q113.1 (hs22.tr (h110.tr h116))) trivial
          · dsimp only
            refine s_aload_n (pc := 377) 1 dL_law_377 rfl rfl ?_
            refine s_aload_n (pc := 378) 0 dL_law_378 rfl rfl ?_
            refine s_iload_n (pc := 379) 3 dL_law_379 rfl rfl ?_
            refine s_iconst (pc := 380) 1 dL_law_380 kc_1 ?_
            refine s_iadd (pc := 381) dL_law_381 ?_
            refine s_grd (fun i119 => ?_)
            refine s_sld (pc := 382) hX hbl hbA i119 dL_law_382 ?_
            refine s_aload_n (pc := 383) 0 dL_law_383 rfl rfl ?_
            refine s_iload_n (pc := 384) 3 dL_law_384 rfl rfl ?_
            refine s_iconst (pc := 385) 2 dL_law_385 kc_2 ?_
            refine s_iadd (pc := 386) dL_law_386 ?_
            refine s_grd (fun i120 => ?_)
            refine s_sld (pc := 387) hX hbl hbA i120 dL_law_387 ?_
            refine s_bind (fun q121 hq122 => ?_)
            have hC123 := t_X11_at (l := xl X) (G := xG X) hq122
            refine s_callV (pc := 388) (As := [.int (xS (s21.2 + 1).toNatClampNeg), .int (xS (s21.2 + 2).toNatClampNeg)]) (st := []) (nlt rfl) (q := (RX11, TX11, 16)) rfl rfl o29 cl_X11_at wi_X11_at wl_X11_at km_L_37 rfl rfl (nle rfl) (nle rfl) (nle rfl) dL_law_388 hC123 ?_
            have h124 := hC123.1 X
            have o125 := h124.ok o29
            have o126 := h124.ok o30
            show S0 X _ q121.1 391 [some (.ref bS), some (.ref (gh (xG X) + (mn M))), some (.ref (gh (xG X) + (mn q5))), some (.int s21.2)] [.int q121.2] _
            refine s_aload_n (pc := 391) 2 dL_law_391 rfl rfl ?_
            refine s_aload_n (pc := 392) 0 dL_law_392 rfl rfl ?_
            refine s_iload_n (pc := 393) 3 dL_law_393 rfl rfl ?_
            refine s_iconst (pc := 394) 1 dL_law_394 kc_1 ?_
            refine s_iadd (pc := 395) dL_law_395 ?_
            refine s_grd (fun i127 => ?_)
            refine s_sld (pc := 396) hX hbl hbA i127 dL_law_396 ?_
            refine s_aload_n (pc := 397) 0 dL_law_397 rfl rfl ?_
            refine s_iload_n (pc := 398) 3 dL_law_398 rfl rfl ?_
            refine s_iconst (pc := 399) 2 dL_law_399 kc_2 ?_
            refine s_iadd (pc := 400) dL_law_400 ?_
            refine s_grd (fun i128 => ?_)
            refine s_sld (pc := 401) hX hbl hbA i128 dL_law_401 ?_
            refine s_bind (fun q129 hq130 => ?_)
            have hC131 := t_X12_at (l := xl X) (G := xG X) hq130
            refine s_callV (pc := 402) (As := [.int (xS (s21.2 + 1).toNatClampNeg), .int (xS (s21.2 + 2).toNatClampNeg)]) (st := [.int q121.2]) (nlt rfl) (q := (RX12, TX12, 59)) rfl rfl o126 cl_X12_at wi_X12_at wl_X12_at km_L_40 rfl rfl (nle rfl) (nle rfl) (nle rfl) dL_law_402 hC131 ?_
            have h132 := hC131.1 X
            have o133 := h132.ok o125
            have o134 := h132.ok o126
            show S0 X _ q129.1 405 [some (.ref bS), some (.ref (gh (xG X) + (mn M))), some (.ref (gh (xG X) + (mn q5))), some (.int s21.2)] [.int q129.2, .int q121.2] _
            refine s_iceq (pc := 405) 1251 dL_law_405 rfl ?_ ?_
            · exact s_drop (hj39 q129.1 (h124.tr h132)) (And.intro rfl (And.intro rfl (And.intro rfl (And.intro rfl trivial))))
            · exact s_drop (hR28 408 (List.mem_of_getElem? (i := 30) rfl) q129.1 (hs22.tr (h124.tr h132))) trivial
          · dsimp only
            refine s_aload_n (pc := 410) 1 dL_law_410 rfl rfl ?_
            refine s_aload_n (pc := 411) 0 dL_law_411 rfl rfl ?_
            refine s_iload_n (pc := 412) 3 dL_law_412 rfl rfl ?_
            refine s_iconst (pc := 413) 1 dL_law_413 kc_1 ?_
            refine s_iadd (pc := 414) dL_law_414 ?_
            refine s_grd (fun i135 => ?_)
            refine s_sld (pc := 415) hX hbl hbA i135 dL_law_415 ?_
            refine s_aload_n (pc := 416) 0 dL_law_416 rfl rfl ?_
            refine s_iload_n (pc := 417) 3 dL_law_417 rfl rfl ?_
            refine s_iconst (pc := 418) 2 dL_law_418 kc_2 ?_
            refine s_iadd (pc := 419) dL_law_419 ?_
            refine s_grd (fun i136 => ?_)
            refine s_sld (pc := 420) hX hbl hbA i136 dL_law_420 ?_
            refine s_bind (fun q137 hq138 => ?_)
            have hC139 := t_X11_terms (l := xl X) (G := xG X) hq138
            refine s_callV (pc := 421) (As := [.int (xS (s21.2 + 1).toNatClampNeg), .int (xS (s21.2 + 2).toNatClampNeg)]) (st := []) (nlt rfl) (q := (RX11, TX11, 16)) rfl rfl o29 cl_X11_terms wi_X11_terms wl_X11_terms km_L_41 rfl rfl (nle rfl) (nle rfl) (nle rfl) dL_law_421 hC139 ?_
            have h140 := hC139.1 X
            have o141 := h140.ok o29
            have o142 := h140.ok o30
            show S0 X _ q137.1 424 [some (.ref bS), some (.ref (gh (xG X) + (mn M))), some (.ref (gh (xG X) + (mn q5))), some (.int s21.2)] [.int q137.2] _
            refine s_aload_n (pc := 424) 2 dL_law_424 rfl rfl ?_
            refine s_aload_n (pc := 425) 0 dL_law_425 rfl rfl ?_
            refine s_iload_n (pc := 426) 3 dL_law_426 rfl rfl ?_
            refine s_iconst (pc := 427) 1 dL_law_427 kc_1 ?_
            refine s_iadd (pc := 428) dL_law_428 ?_
            refine s_grd (fun i143 => ?_)
            refine s_sld (pc := 429) hX hbl hbA i143 dL_law_429 ?_
            refine s_aload_n (pc := 430) 0 dL_law_430 rfl rfl ?_
            refine s_iload_n (pc := 431) 3 dL_law_431 rfl rfl ?_
            refine s_iconst (pc := 432) 2 dL_law_432 kc_2 ?_
            refine s_iadd (pc := 433) dL_law_433 ?_
            refine s_grd (fun i144 => ?_)
            refine s_sld (pc := 434) hX hbl hbA i144 dL_law_434 ?_
            refine s_bind (fun q145 hq146 => ?_)
            have hC147 := t_X12_terms (l := xl X) (G := xG X) hq146
            refine s_callV (pc := 435) (As := [.int (xS (s21.2 + 1).toNatClampNeg), .int (xS (s21.2 + 2).toNatClampNeg)]) (st := [.int q137.2]) (nlt rfl) (q := (RX12, TX12, 59)) rfl rfl o142 cl_X12_terms wi_X12_terms wl_X12_terms km_L_44 rfl rfl (nle rfl) (nle rfl) (nle rfl) dL_law_435 hC147 ?_
            have h148 := hC147.1 X
            have o149 := h148.ok o141
            have o150 := h148.ok o142
            show S0 X _ q145.1 438 [some (.ref bS), some (.ref (gh (xG X) + (mn M))), some (.ref (gh (xG X) + (mn q5))), some (.int s21.2)] [.int q145.2, .int q137.2] _
            refine s_iceq (pc := 438) 1251 dL_law_438 rfl ?_ ?_
            · exact s_drop (hj39 q145.1 (h140.tr h148)) (And.intro rfl (And.intro rfl (And.intro rfl (And.intro rfl trivial))))
            · exact s_drop (hR28 441 (List.mem_of_getElem? (i := 29) rfl) q145.1 (hs22.tr (h140.tr h148))) trivial
          · dsimp only
            refine s_aload_n (pc := 443) 1 dL_law_443 rfl rfl ?_
            refine s_aload_n (pc := 444) 0 dL_law_444 rfl rfl ?_
            refine s_iload_n (pc := 445) 3 dL_law_445 rfl rfl ?_
            refine s_iconst (pc := 446) 1 dL_law_446 kc_1 ?_
            refine s_iadd (pc := 447) dL_law_447 ?_
            refine s_grd (fun i151 => ?_)
            refine s_sld (pc := 448) hX hbl hbA i151 dL_law_448 ?_
            refine s_aload_n (pc := 449) 0 dL_law_449 rfl rfl ?_
            refine s_iload_n (pc := 450) 3 dL_law_450 rfl rfl ?_
            refine s_iconst (pc := 451) 2 dL_law_451 kc_2 ?_
            refine s_iadd (pc := 452) dL_law_452 ?_
            refine s_grd (fun i152 => ?_)
            refine s_sld (pc := 453) hX hbl hbA i152 dL_law_453 ?_
            refine s_aload_n (pc := 454) 0 dL_law_454 rfl rfl ?_
            refine s_iload_n (pc := 455) 3 dL_law_455 rfl rfl ?_
            refine s_iconst (pc := 456) 3 dL_law_456 kc_3 ?_
            refine s_iadd (pc := 457) dL_law_457 ?_
            refine s_grd (fun i153 => ?_)
            refine s_sld (pc := 458) hX hbl hbA i153 dL_law_458 ?_
            refine s_aload_n (pc := 459) 0 dL_law_459 rfl rfl ?_
            refine s_iload_n (pc := 460) 3 dL_law_460 rfl rfl ?_
            refine s_iconst (pc := 461) 4 dL_law_461 kc_4 ?_
            refine s_iadd (pc := 462) dL_law_462 ?_
            refine s_grd (fun i154 => ?_)
            refine s_sld (pc := 463) hX hbl hbA i154 dL_law_463 ?_
            refine s_aload_n (pc := 464) 0 dL_law_464 rfl rfl ?_
            refine s_iload_n (pc := 465) 3 dL_law_465 rfl rfl ?_
            refine s_iconst (pc := 466) 5 dL_law_466 kc_5 ?_
            refine s_iadd (pc := 467) dL_law_467 ?_
            refine s_grd (fun i155 => ?_)
            refine s_sld (pc := 468) hX hbl hbA i155 dL_law_468 ?_
            refine s_bind (fun q156 hq157 => ?_)
            have hC158 := t_X11_feed (l := xl X) (G := xG X) hq157
            refine s_callV (pc := 469) (As := [.int (xS (s21.2 + 1).toNatClampNeg), .int (xS (s21.2 + 2).toNatClampNeg), .int (xS (s21.2 + 3).toNatClampNeg), .int (xS (s21.2 + 4).toNatClampNeg), .int (xS (s21.2 + 5).toNatClampNeg)]) (st := []) (nlt rfl) (q := (RX11, TX11, 16)) rfl rfl o29 cl_X11_feed wi_X11_feed wl_X11_feed km_L_45 rfl rfl (nle rfl) (nle rfl) (nle rfl) dL_law_469 hC158 ?_
            have h159 := hC158.1 X
            have o160 := h159.ok o29
            have o161 := h159.ok o30
            show S0 X _ q156.1 472 [some (.ref bS), some (.ref (gh (xG X) + (mn M))), some (.ref (gh (xG X) + (mn q5))), some (.int s21.2)] [.int q156.2] _
            refine s_aload_n (pc := 472) 2 dL_law_472 rfl rfl ?_
            refine s_aload_n (pc := 473) 0 dL_law_473 rfl rfl ?_
            refine s_iload_n (pc := 474) 3 dL_law_474 rfl rfl ?_
            refine s_iconst (pc := 475) 1 dL_law_475 kc_1 ?_
            refine s_iadd (pc := 476) dL_law_476 ?_
            refine s_grd (fun i162 => ?_)
            refine s_sld (pc := 477) hX hbl hbA i162 dL_law_477 ?_
            refine s_aload_n (pc := 478) 0 dL_law_478 rfl rfl ?_
            refine s_iload_n (pc := 479) 3 dL_law_479 rfl rfl ?_
            refine s_iconst (pc := 480) 2 dL_law_480 kc_2 ?_
            refine s_iadd (pc := 481) dL_law_481 ?_
            refine s_grd (fun i163 => ?_)
            refine s_sld (pc := 482) hX hbl hbA i163 dL_law_482 ?_
            refine s_aload_n (pc := 483) 0 dL_law_483 rfl rfl ?_
            refine s_iload_n (pc := 484) 3 dL_law_484 rfl rfl ?_
            refine s_iconst (pc := 485) 3 dL_law_485 kc_3 ?_
            refine s_iadd (pc := 486) dL_law_486 ?_
            refine s_grd (fun i164 => ?_)
            refine s_sld (pc := 487) hX hbl hbA i164 dL_law_487 ?_
            refine s_aload_n (pc := 488) 0 dL_law_488 rfl rfl ?_
            refine s_iload_n (pc := 489) 3 dL_law_489 rfl rfl ?_
            refine s_iconst (pc := 490) 4 dL_law_490 kc_4 ?_
            refine s_iadd (pc := 491) dL_law_491 ?_
            refine s_grd (fun i165 => ?_)
            refine s_sld (pc := 492) hX hbl hbA i165 dL_law_492 ?_
            refine s_aload_n (pc := 493) 0 dL_law_493 rfl rfl ?_
            refine s_iload_n (pc := 494) 3 dL_law_494 rfl rfl ?_
            refine s_iconst (pc := 495) 5 dL_law_495 kc_5 ?_
            refine s_iadd (pc := 496) dL_law_496 ?_
            refine s_grd (fun i166 => ?_)
            refine s_sld (pc := 497) hX hbl hbA i166 dL_law_497 ?_
            refine s_bind (fun q167 hq168 => ?_)
            have hC169 := t_X12_feed (l := xl X) (G := xG X) hq168
            refine s_callV (pc := 498) (As := [.int (xS (s21.2 + 1).toNatClampNeg), .int (xS (s21.2 + 2).toNatClampNeg), .int (xS (s21.2 + 3).toNatClampNeg), .int (xS (s21.2 + 4).toNatClampNeg), .int (xS (s21.2 + 5).toNatClampNeg)]) (st := [.int q156.2]) (nlt rfl) (q := (RX12, TX12, 59)) rfl rfl o161 cl_X12_feed wi_X12_feed wl_X12_feed km_L_49 rfl rfl (nle rfl) (nle rfl) (nle rfl) dL_law_498 hC169 ?_
            have h170 := hC169.1 X
            have o171 := h170.ok o160
            have o172 := h170.ok o161
            show S0 X _ q167.1 501 [some (.ref bS), some (.ref (gh (xG X) + (mn M))), some (.ref (gh (xG X) + (mn q5))), some (.int s21.2)] [.int q167.2, .int q156.2] _
            refine s_iceq (pc := 501) 1251 dL_law_501 rfl ?_ ?_
            · exact s_drop (hj39 q167.1 (h159.tr h170)) (And.intro rfl (And.intro rfl (And.intro rfl (And.intro rfl trivial))))
            · exact s_drop (hR28 504 (List.mem_of_getElem? (i := 28) rfl) q167.1 (hs22.tr (h159.tr h170))) trivial
          · dsimp only
            refine s_aload_n (pc := 506) 1 dL_law_506 rfl rfl ?_
            refine s_aload_n (pc := 507) 0 dL_law_507 rfl rfl ?_
            refine s_iload_n (pc := 508) 3 dL_law_508 rfl rfl ?_
            refine s_iconst (pc := 509) 1 dL_law_509 kc_1 ?_
            refine s_iadd (pc := 510) dL_law_510 ?_
            refine s_grd (fun i173 => ?_)
            refine s_sld (pc := 511) hX hbl hbA i173 dL_law_511 ?_
            refine s_bind (fun q174 hq175 => ?_)
            have hC176 := t_X11_end (l := xl X) (G := xG X) hq175
            refine s_callV (pc := 512) (As := [.int (xS (s21.2 + 1).toNatClampNeg)]) (st := []) (nlt rfl) (q := (RX11, TX11, 16)) rfl rfl o29 cl_X11_end wi_X11_end wl_X11_end km_L_50 rfl rfl (nle rfl) (nle rfl) (nle rfl) dL_law_512 hC176 ?_
            have h177 := hC176.1 X
            have o178 := h177.ok o29
            have o179 := h177.ok o30
            show S0 X _ q174.1 515 [some (.ref bS), some (.ref (gh (xG X) + (mn M))), some (.ref (gh (xG X) + (mn q5))), some (.int s21.2)] [.int q174.2] _
            refine s_aload_n (pc := 515) 2 dL_law_515 rfl rfl ?_
            refine s_aload_n (pc := 516) 0 dL_law_516 rfl rfl ?_
            refine s_iload_n (pc := 517) 3 dL_law_517 rfl rfl ?_
            refine s_iconst (pc := 518) 1 dL_law_518 kc_1 ?_
            refine s_iadd (pc := 519) dL_law_519 ?_
            refine s_grd (fun i180 => ?_)
            refine s_sld (pc := 520) hX hbl hbA i180 dL_law_520 ?_
            refine s_bind (fun q181 hq182 => ?_)
            have hC183 := t_X12_end (l := xl X) (G := xG X) hq182
            refine s_callV (pc := 521) (As := [.int (xS (s21.2 + 1).toNatClampNeg)]) (st := [.int q174.2]) (nlt rfl) (q := (RX12, TX12, 59)) rfl rfl o179 cl_X12_end wi_X12_end wl_X12_end km_L_54 rfl rfl (nle rfl) (nle rfl) (nle rfl) dL_law_521 hC183 ?_
            have h184 := hC183.1 X
            have o185 := h184.ok o178
            have o186 := h184.ok o179
            show S0 X _ q181.1 524 [some (.ref bS), some (.ref (gh (xG X) + (mn M))), some (.ref (gh (xG X) + (mn q5))), some (.int s21.2)] [.int q181.2, .int q174.2] _
            refine s_iceq (pc := 524) 1251 dL_law_524 rfl ?_ ?_
            · exact s_drop (hj39 q181.1 (h177.tr h184)) (And.intro rfl (And.intro rfl (And.intro rfl (And.intro rfl trivial))))
            · exact s_drop (hR28 527 (List.mem_of_getElem? (i := 27) rfl) q181.1 (hs22.tr (h177.tr h184))) trivial
          · dsimp only
            refine s_aload_n (pc := 529) 1 dL_law_529 rfl rfl ?_
            refine s_bind (fun q187 hq188 => ?_)
            have hC189 := t_X11_row (l := xl X) (G := xG X) hq188
            refine s_callV (pc := 530) (As := []) (st := []) (nlt rfl) (q := (RX11, TX11, 16)) rfl rfl o29 cl_X11_row wi_X11_row wl_X11_row km_L_55 rfl rfl (nle rfl) (nle rfl) (nle rfl) dL_law_530 hC189 ?_
            have h190 := hC189.1 X
            have o191 := h190.ok o29
            have o192 := h190.ok o30
            show S0 X _ q187.1 533 [some (.ref bS), some (.ref (gh (xG X) + (mn M))), some (.ref (gh (xG X) + (mn q5))), some (.int s21.2)] [.int q187.2] _
            refine s_aload_n (pc := 533) 2 dL_law_533 rfl rfl ?_
            refine s_bind (fun q193 hq194 => ?_)
            have hC195 := t_X12_row (l := xl X) (G := xG X) hq194
            refine s_callV (pc := 534) (As := []) (st := [.int q187.2]) (nlt rfl) (q := (RX12, TX12, 59)) rfl rfl o192 cl_X12_row wi_X12_row wl_X12_row km_L_58 rfl rfl (nle rfl) (nle rfl) (nle rfl) dL_law_534 hC195 ?_
            have h196 := hC195.1 X
            have o197 := h196.ok o191
            have o198 := h196.ok o192
            show S0 X _ q193.1 537 [some (.ref bS), some (.ref (gh (xG X) + (mn M))), some (.ref (gh (xG X) + (mn q5))), some (.int s21.2)] [.int q193.2, .int q187.2] _
            refine s_iceq (pc := 537) 1251 dL_law_537 rfl ?_ ?_
            · exact s_drop (hj39 q193.1 (h190.tr h196)) (And.intro rfl (And.intro rfl (And.intro rfl (And.intro rfl trivial))))
            · exact s_drop (hR28 540 (List.mem_of_getElem? (i := 26) rfl) q193.1 (hs22.tr (h190.tr h196))) trivial
          · dsimp only
            refine s_aload_n (pc := 542) 1 dL_law_542 rfl rfl ?_
            refine s_bind (fun q199 hq200 => ?_)
            have hC201 := t_X11_burnt (l := xl X) (G := xG X) hq200
            refine s_callV (pc := 543) (As := []) (st := []) (nlt rfl) (q := (RX11, TX11, 16)) rfl rfl o29 cl_X11_burnt wi_X11_burnt wl_X11_burnt km_L_59 rfl rfl (nle rfl) (nle rfl) (nle rfl) dL_law_543 hC201 ?_
            show S0 X _ s21.1 546 [some (.ref bS), some (.ref (gh (xG X) + (mn M))), some (.ref (gh (xG X) + (mn q5))), some (.int s21.2)] [.int q199] _
            refine s_aload_n (pc := 546) 2 dL_law_546 rfl rfl ?_
            refine s_bind (fun q202 hq203 => ?_)
            have hC204 := t_X12_burnt (l := xl X) (G := xG X) hq203
            refine s_callV (pc := 547) (As := []) (st := [.int q199]) (nlt rfl) (q := (RX12, TX12, 59)) rfl rfl o30 cl_X12_burnt wi_X12_burnt wl_X12_burnt km_L_62 rfl rfl (nle rfl) (nle rfl) (nle rfl) dL_law_547 hC204 ?_
            show S0 X _ s21.1 550 [some (.ref bS), some (.ref (gh (xG X) + (mn M))), some (.ref (gh (xG X) + (mn q5))), some (.int s21.2)] [.int q202, .int q199] _
            refine s_iceq (pc := 550) 1251 dL_law_550 rfl ?_ ?_
            · exact s_drop (hj39 s21.1 Le.rf) (And.intro rfl (And.intro rfl (And.intro rfl (And.intro rfl trivial))))
            · exact s_drop (hR28 553 (List.mem_of_getElem? (i := 25) rfl) s21.1 hs22) trivial
          · dsimp only
            refine s_aload_n (pc := 555) 1 dL_law_555 rfl rfl ?_
            refine s_bind (fun q205 hq206 => ?_)
            have hC207 := t_X11_law (l := xl X) (G := xG X) hq206
            refine s_callV (pc := 556) (As := []) (st := []) (nlt rfl) (q := (RX11, TX11, 16)) rfl rfl o29 cl_X11_law wi_X11_law wl_X11_law km_L_63 rfl rfl (nle rfl) (nle rfl) (nle rfl) dL_law_556 hC207 ?_
            have h208 := hC207.1 X
            have o209 := h208.ok o29
            have o210 := h208.ok o30
            show S0 X _ q205.1 559 [some (.ref bS), some (.ref (gh (xG X) + (mn M))), some (.ref (gh (xG X) + (mn q5))), some (.int s21.2)] [.int q205.2] _
            refine s_aload_n (pc := 559) 2 dL_law_559 rfl rfl ?_
            refine s_bind (fun q211 hq212 => ?_)
            have hC213 := t_X12_law (l := xl X) (G := xG X) hq212
            refine s_callV (pc := 560) (As := []) (st := [.int q205.2]) (nlt rfl) (q := (RX12, TX12, 59)) rfl rfl o210 cl_X12_law wi_X12_law wl_X12_law km_L_66 rfl rfl (nle rfl) (nle rfl) (nle rfl) dL_law_560 hC213 ?_
            have h214 := hC213.1 X
            have o215 := h214.ok o209
            have o216 := h214.ok o210
            show S0 X _ q211.1 563 [some (.ref bS), some (.ref (gh (xG X) + (mn M))), some (.ref (gh (xG X) + (mn q5))), some (.int s21.2)] [.int q211.2, .int q205.2] _
            refine s_iceq (pc := 563) 1251 dL_law_563 rfl ?_ ?_
            · exact s_drop (hj39 q211.1 (h208.tr h214)) (And.intro rfl (And.intro rfl (And.intro rfl (And.intro rfl trivial))))
            · exact s_drop (hR28 566 (List.mem_of_getElem? (i := 24) rfl) q211.1 (hs22.tr (h208.tr h214))) trivial
          · dsimp only
            refine s_aload_n (pc := 568) 1 dL_law_568 rfl rfl ?_
            refine s_bind (fun q217 hq218 => ?_)
            have hC219 := t_X11_orders (l := xl X) (G := xG X) hq218
            refine s_callV (pc := 569) (As := []) (st := []) (nlt rfl) (q := (RX11, TX11, 16)) rfl rfl o29 cl_X11_orders wi_X11_orders wl_X11_orders km_L_67 rfl rfl (nle rfl) (nle rfl) (nle rfl) dL_law_569 hC219 ?_
            have h220 := hC219.1 X
            have o221 := h220.ok o29
            have o222 := h220.ok o30
            show S0 X _ q217.1 572 [some (.ref bS), some (.ref (gh (xG X) + (mn M))), some (.ref (gh (xG X) + (mn q5))), some (.int s21.2)] [.int q217.2] _
            refine s_aload_n (pc := 572) 2 dL_law_572 rfl rfl ?_
            refine s_bind (fun q223 hq224 => ?_)
            have hC225 := t_X12_orders (l := xl X) (G := xG X) hq224
            refine s_callV (pc := 573) (As := []) (st := [.int q217.2]) (nlt rfl) (q := (RX12, TX12, 59)) rfl rfl o222 cl_X12_orders wi_X12_orders wl_X12_orders km_L_70 rfl rfl (nle rfl) (nle rfl) (nle rfl) dL_law_573 hC225 ?_
            have h226 := hC225.1 X
            have o227 := h226.ok o221
            have o228 := h226.ok o222
            show S0 X _ q223.1 576 [some (.ref bS), some (.ref (gh (xG X) + (mn M))), some (.ref (gh (xG X) + (mn q5))), some (.int s21.2)] [.int q223.2, .int q217.2] _
            refine s_iceq (pc := 576) 1251 dL_law_576 rfl ?_ ?_
            · exact s_drop (hj39 q223.1 (h220.tr h226)) (And.intro rfl (And.intro rfl (And.intro rfl (And.intro rfl trivial))))
            · exact s_drop (hR28 579 (List.mem_of_getElem? (i := 23) rfl) q223.1 (hs22.tr (h220.tr h226))) trivial
          · dsimp only
            refine s_aload_n (pc := 581) 1 dL_law_581 rfl rfl ?_
            refine s_bind (fun q229 hq230 => ?_)
            have hC231 := t_X11_fault (l := xl X) (G := xG X) hq230
            refine s_callV (pc := 582) (As := []) (st := []) (nlt rfl) (q := (RX11, TX11, 16)) rfl rfl o29 cl_X11_fault wi_X11_fault wl_X11_fault km_L_71 rfl rfl (nle rfl) (nle rfl) (nle rfl) dL_law_582 hC231 ?_
            show S0 X _ s21.1 585 [some (.ref bS), some (.ref (gh (xG X) + (mn M))), some (.ref (gh (xG X) + (mn q5))), some (.int s21.2)] [.int q229] _
            refine s_aload_n (pc := 585) 2 dL_law_585 rfl rfl ?_
            refine s_bind (fun q232 hq233 => ?_)
            have hC234 := t_X12_fault (l := xl X) (G := xG X) hq233
            refine s_callV (pc := 586) (As := []) (st := [.int q229]) (nlt rfl) (q := (RX12, TX12, 59)) rfl rfl o30 cl_X12_fault wi_X12_fault wl_X12_fault km_L_74 rfl rfl (nle rfl) (nle rfl) (nle rfl) dL_law_586 hC234 ?_
            show S0 X _ s21.1 589 [some (.ref bS), some (.ref (gh (xG X) + (mn M))), some (.ref (gh (xG X) + (mn q5))), some (.int s21.2)] [.int q232, .int q229] _
            refine s_iceq (pc := 589) 1251 dL_law_589 rfl ?_ ?_
            · exact s_drop (hj39 s21.1 Le.rf) (And.intro rfl (And.intro rfl (And.intro rfl (And.intro rfl trivial))))
            · exact s_drop (hR28 592 (List.mem_of_getElem? (i := 22) rfl) s21.1 hs22) trivial
          · dsimp only
            refine s_aload_n (pc := 594) 1 dL_law_594 rfl rfl ?_
            refine s_bind (fun q235 hq236 => ?_)
            have hC237 := t_X11_stopped (l := xl X) (G := xG X) hq236
            refine s_callV (pc := 595) (As := []) (st := []) (nlt rfl) (q := (RX11, TX11, 16)) rfl rfl o29 cl_X11_stopped wi_X11_stopped wl_X11_stopped km_L_75 rfl rfl (nle rfl) (nle rfl) (nle rfl) dL_law_595 hC237 ?_
            show S0 X _ s21.1 598 [some (.ref bS), some (.ref (gh (xG X) + (mn M))), some (.ref (gh (xG X) + (mn q5))), some (.int s21.2)] [.int q235] _
            refine s_aload_n (pc := 598) 2 dL_law_598 rfl rfl ?_
            refine s_bind (fun q238 hq239 => ?_)
            have hC240 := t_X12_stopped (l := xl X) (G := xG X) hq239
            refine s_callV (pc := 599) (As := []) (st := [.int q235]) (nlt rfl) (q := (RX12, TX12, 59)) rfl rfl o30 cl_X12_stopped wi_X12_stopped wl_X12_stopped km_L_78 rfl rfl (nle rfl) (nle rfl) (nle rfl) dL_law_599 hC240 ?_
            show S0 X _ s21.1 602 [some (.ref bS), some (.ref (gh (xG X) + (mn M))), some (.ref (gh (xG X) + (mn q5))), some (.int s21.2)] [.int q238, .int q235] _
            refine s_iceq (pc := 602) 1251 dL_law_602 rfl ?_ ?_
            · exact s_drop (hj39 s21.1 Le.rf) (And.intro rfl (And.intro rfl (And.intro rfl (And.intro rfl trivial))))
            · exact s_drop (hR28 605 (List.mem_of_getElem? (i := 21) rfl) s21.1 hs22) trivial
          · dsimp only
            refine s_aload_n (pc := 607) 1 dL_law_607 rfl rfl ?_
            refine s_aload_n (pc := 608) 0 dL_law_608 rfl rfl ?_
            refine s_iload_n (pc := 609) 3 dL_law_609 rfl rfl ?_
            refine s_iconst (pc := 610) 1 dL_law_610 kc_1 ?_
            refine s_iadd (pc := 611) dL_law_611 ?_
            refine s_grd (fun i241 => ?_)
            refine s_sld (pc := 612) hX hbl hbA i241 dL_law_612 ?_
            refine s_bind (fun q242 hq243 => ?_)
            have hC244 := t_X11_force (l := xl X) (G := xG X) hq243
            refine s_callV (pc := 613) (As := [.int (xS (s21.2 + 1).toNatClampNeg)]) (st := []) (nlt rfl) (q := (RX11, TX11, 16)) rfl rfl o29 cl_X11_force wi_X11_force wl_X11_force km_L_79 rfl rfl (nle rfl) (nle rfl) (nle rfl) dL_law_613 hC244 ?_
            have h245 := hC244.1 X
            have o246 := h245.ok o29
            have o247 := h245.ok o30
            show S0 X _ q242.1 616 [some (.ref bS), some (.ref (gh (xG X) + (mn M))), some (.ref (gh (xG X) + (mn q5))), some (.int s21.2)] [.int q242.2] _
            refine s_aload_n (pc := 616) 2 dL_law_616 rfl rfl ?_
            refine s_aload_n (pc := 617) 0 dL_law_617 rfl rfl ?_
            refine s_iload_n (pc := 618) 3 dL_law_618 rfl rfl ?_
            refine s_iconst (pc := 619) 1 dL_law_619 kc_1 ?_
            refine s_iadd (pc := 620) dL_law_620 ?_
            refine s_grd (fun i248 => ?_)
            refine s_sld (pc := 621) hX hbl hbA i248 dL_law_621 ?_
            refine s_bind (fun q249 hq250 => ?_)
            have hC251 := t_X12_force (l := xl X) (G := xG X) hq250
            refine s_callV (pc := 622) (As := [.int (xS (s21.2 + 1).toNatClampNeg)]) (st := [.int q242.2]) (nlt rfl) (q := (RX12, TX12, 59)) rfl rfl o247 cl_X12_force wi_X12_force wl_X12_force km_L_82 rfl rfl (nle rfl) (nle rfl) (nle rfl) dL_law_622 hC251 ?_
            have h252 := hC251.1 X
            have o253 := h252.ok o246
            have o254 := h252.ok o247
            show S0 X _ q249.1 625 [some (.ref bS), some (.ref (gh (xG X) + (mn M))), some (.ref (gh (xG X) + (mn q5))), some (.int s21.2)] [.int q249.2, .int q242.2] _
            refine s_iceq (pc := 625) 1251 dL_law_625 rfl ?_ ?_
            · exact s_drop (hj39 q249.1 (h245.tr h252)) (And.intro rfl (And.intro rfl (And.intro rfl (And.intro rfl trivial))))
            · exact s_drop (hR28 628 (List.mem_of_getElem? (i := 20) rfl) q249.1 (hs22.tr (h245.tr h252))) trivial
          · dsimp only
            refine s_aload_n (pc := 630) 1 dL_law_630 rfl rfl ?_
            refine s_aload_n (pc := 631) 0 dL_law_631 rfl rfl ?_
            refine s_iload_n (pc := 632) 3 dL_law_632 rfl rfl ?_
            refine s_iconst (pc := 633) 1 dL_law_633 kc_1 ?_
            refine s_iadd (pc := 634) dL_law_634 ?_
            refine s_grd (fun i255 => ?_)
            refine s_sld (pc := 635) hX hbl hbA i255 dL_law_635 ?_
            refine s_aload_n (pc := 636) 0 dL_law_636 rfl rfl ?_
            refine s_iload_n (pc := 637) 3 dL_law_637 rfl rfl ?_
            refine s_iconst (pc := 638) 2 dL_law_638 kc_2 ?_
            refine s_iadd (pc := 639) dL_law_639 ?_
            refine s_grd (fun i256 => ?_)
            refine s_sld (pc := 640) hX hbl hbA i256 dL_law_640 ?_
            refine s_aload_n (pc := 641) 0 dL_law_641 rfl rfl ?_
            refine s_iload_n (pc := 642) 3 dL_law_642 rfl rfl ?_
            refine s_iconst (pc := 643) 3 dL_law_643 kc_3 ?_
            refine s_iadd (pc := 644) dL_law_644 ?_
            refine s_grd (fun i257 => ?_)
            refine s_sld (pc := 645) hX hbl hbA i257 dL_law_645 ?_
            refine s_aload_n (pc := 646) 0 dL_law_646 rfl rfl ?_
            refine s_iload_n (pc := 647) 3 dL_law_647 rfl rfl ?_
            refine s_iconst (pc := 648) 4 dL_law_648 kc_4 ?_
            refine s_iadd (pc := 649) dL_law_649 ?_
            refine s_grd (fun i258 => ?_)
            refine s_sld (pc := 650) hX hbl hbA i258 dL_law_650 ?_
            refine s_aload_n (pc := 651) 0 dL_law_651 rfl rfl ?_
            refine s_iload_n (pc := 652) 3 dL_law_652 rfl rfl ?_
            refine s_iconst (pc := 653) 5 dL_law_653 kc_5 ?_
            refine s_iadd (pc := 654) dL_law_654 ?_
            refine s_grd (fun i259 => ?_)
            refine s_sld (pc := 655) hX hbl hbA i259 dL_law_655 ?_
            refine s_bind (fun q260 hq261 => ?_)
            have hC262 := t_X11_change (l := xl X) (G := xG X) hq261
            refine s_callV (pc := 656) (As := [.int (xS (s21.2 + 1).toNatClampNeg), .int (xS (s21.2 + 2).toNatClampNeg), .int (xS (s21.2 + 3).toNatClampNeg), .int (xS (s21.2 + 4).toNatClampNeg), .int (xS (s21.2 + 5).toNatClampNeg)]) (st := []) (nlt rfl) (q := (RX11, TX11, 16)) rfl rfl o29 cl_X11_change wi_X11_change wl_X11_change km_L_83 rfl rfl (nle rfl) (nle rfl) (nle rfl) dL_law_656 hC262 ?_
            have h263 := hC262.1 X
            have o264 := h263.ok o29
            have o265 := h263.ok o30
            show S0 X _ q260.1 659 [some (.ref bS), some (.ref (gh (xG X) + (mn M))), some (.ref (gh (xG X) + (mn q5))), some (.int s21.2)] [.int q260.2] _
            refine s_aload_n (pc := 659) 2 dL_law_659 rfl rfl ?_
            refine s_aload_n (pc := 660) 0 dL_law_660 rfl rfl ?_
            refine s_iload_n (pc := 661) 3 dL_law_661 rfl rfl ?_
            refine s_iconst (pc := 662) 1 dL_law_662 kc_1 ?_
            refine s_iadd (pc := 663) dL_law_663 ?_
            refine s_grd (fun i266 => ?_)
            refine s_sld (pc := 664) hX hbl hbA i266 dL_law_664 ?_
            refine s_aload_n (pc := 665) 0 dL_law_665 rfl rfl ?_
            refine s_iload_n (pc := 666) 3 dL_law_666 rfl rfl ?_
            refine s_iconst (pc := 667) 2 dL_law_667 kc_2 ?_
            refine s_iadd (pc := 668) dL_law_668 ?_
            refine s_grd (fun i267 => ?_)
            refine s_sld (pc := 669) hX hbl hbA i267 dL_law_669 ?_
            refine s_aload_n (pc := 670) 0 dL_law_670 rfl rfl ?_
            refine s_iload_n (pc := 671) 3 dL_law_671 rfl rfl ?_
            refine s_iconst (pc := 672) 3 dL_law_672 kc_3 ?_
            refine s_iadd (pc := 673) dL_law_673 ?_
            refine s_grd (fun i268 => ?_)
            refine s_sld (pc := 674) hX hbl hbA i268 dL_law_674 ?_
            refine s_aload_n (pc := 675) 0 dL_law_675 rfl rfl ?_
            refine s_iload_n (pc := 676) 3 dL_law_676 rfl rfl ?_
            refine s_iconst (pc := 677) 4 dL_law_677 kc_4 ?_
            refine s_iadd (pc := 678) dL_law_678 ?_
            refine s_grd (fun i269 => ?_)
            refine s_sld (pc := 679) hX hbl hbA i269 dL_law_679 ?_
            refine s_aload_n (pc := 680) 0 dL_law_680 rfl rfl ?_
            refine s_iload_n (pc := 681) 3 dL_law_681 rfl rfl ?_
            refine s_iconst (pc := 682) 5 dL_law_682 kc_5 ?_
            refine s_iadd (pc := 683) dL_law_683 ?_
            refine s_grd (fun i270 => ?_)
            refine s_sld (pc := 684) hX hbl hbA i270 dL_law_684 ?_
            refine s_bind (fun q271 hq272 => ?_)
            have hC273 := t_X12_change (l := xl X) (G := xG X) hq272
            refine s_callV (pc := 685) (As := [.int (xS (s21.2 + 1).toNatClampNeg), .int (xS (s21.2 + 2).toNatClampNeg), .int (xS (s21.2 + 3).toNatClampNeg), .int (xS (s21.2 + 4).toNatClampNeg), .int (xS (s21.2 + 5).toNatClampNeg)]) (st := [.int q260.2]) (nlt rfl) (q := (RX12, TX12, 59)) rfl rfl o265 cl_X12_change wi_X12_change wl_X12_change km_L_86 rfl rfl (nle rfl) (nle rfl) (nle rfl) dL_law_685 hC273 ?_
            have h274 := hC273.1 X
            have o275 := h274.ok o264
            have o276 := h274.ok o265
            show S0 X _ q271.1 688 [some (.ref bS), some (.ref (gh (xG X) + (mn M))), some (.ref (gh (xG X) + (mn q5))), some (.int s21.2)] [.int q271.2, .int q260.2] _
            refine s_iceq (pc := 688) 1251 dL_law_688 rfl ?_ ?_
            · exact s_drop (hj39 q271.1 (h263.tr h274)) (And.intro rfl (And.intro rfl (And.intro rfl (And.intro rfl trivial))))
            · exact s_drop (hR28 691 (List.mem_of_getElem? (i := 19) rfl) q271.1 (hs22.tr (h263.tr h274))) trivial
          · dsimp only
            refine s_aload_n (pc := 693) 1 dL_law_693 rfl rfl ?_
            refine s_aload_n (pc := 694) 0 dL_law_694 rfl rfl ?_
            refine s_iload_n (pc := 695) 3 dL_law_695 rfl rfl ?_
            refine s_iconst (pc := 696) 1 dL_law_696 kc_1 ?_
            refine s_iadd (pc := 697) dL_law_697 ?_
            refine s_grd (fun i277 => ?_)
            refine s_sld (pc := 698) hX hbl hbA i277 dL_law_698 ?_
            refine s_aload_n (pc := 699) 0 dL_law_699 rfl rfl ?_
            refine s_iload_n (pc := 700) 3 dL_law_700 rfl rfl ?_
            refine s_iconst (pc := 701) 2 dL_law_701 kc_2 ?_
            refine s_iadd (pc := 702) dL_law_702 ?_
            refine s_grd (fun i278 => ?_)
            refine s_sld (pc := 703) hX hbl hbA i278 dL_law_703 ?_
            refine s_bind (fun q279 hq280 => ?_)
            have hC281 := t_X11_changes (l := xl X) (G := xG X) hq280
            refine s_callV (pc := 704) (As := [.int (xS (s21.2 + 1).toNatClampNeg), .int (xS (s21.2 + 2).toNatClampNeg)]) (st := []) (nlt rfl) (q := (RX11, TX11, 16)) rfl rfl o29 cl_X11_changes wi_X11_changes wl_X11_changes km_L_87 rfl rfl (nle rfl) (nle rfl) (nle rfl) dL_law_704 hC281 ?_
            have h282 := hC281.1 X
            have o283 := h282.ok o29
            have o284 := h282.ok o30
            show S0 X _ q279.1 707 [some (.ref bS), some (.ref (gh (xG X) + (mn M))), some (.ref (gh (xG X) + (mn q5))), some (.int s21.2)] [.int q279.2] _
            refine s_aload_n (pc := 707) 2 dL_law_707 rfl rfl ?_
            refine s_aload_n (pc := 708) 0 dL_law_708 rfl rfl ?_
            refine s_iload_n (pc := 709) 3 dL_law_709 rfl rfl ?_
            refine s_iconst (pc := 710) 1 dL_law_710 kc_1 ?_
            refine s_iadd (pc := 711) dL_law_711 ?_
            refine s_grd (fun i285 => ?_)
            refine s_sld (pc := 712) hX hbl hbA i285 dL_law_712 ?_
            refine s_aload_n (pc := 713) 0 dL_law_713 rfl rfl ?_
            refine s_iload_n (pc := 714) 3 dL_law_714 rfl rfl ?_
            refine s_iconst (pc := 715) 2 dL_law_715 kc_2 ?_
            refine s_iadd (pc := 716) dL_law_716 ?_
            refine s_grd (fun i286 => ?_)
            refine s_sld (pc := 717) hX hbl hbA i286 dL_law_717 ?_
            refine s_bind (fun q287 hq288 => ?_)
            have hC289 := t_X12_changes (l := xl X) (G := xG X) hq288
            refine s_callV (pc := 718) (As := [.int (xS (s21.2 + 1).toNatClampNeg), .int (xS (s21.2 + 2).toNatClampNeg)]) (st := [.int q279.2]) (nlt rfl) (q := (RX12, TX12, 59)) rfl rfl o284 cl_X12_changes wi_X12_changes wl_X12_changes km_L_90 rfl rfl (nle rfl) (nle rfl) (nle rfl) dL_law_718 hC289 ?_
            have h290 := hC289.1 X
            have o291 := h290.ok o283
            have o292 := h290.ok o284
            show S0 X _ q287.1 721 [some (.ref bS), some (.ref (gh (xG X) + (mn M))), some (.ref (gh (xG X) + (mn q5))), some (.int s21.2)] [.int q287.2, .int q279.2] _
            refine s_iceq (pc := 721) 1251 dL_law_721 rfl ?_ ?_
            · exact s_drop (hj39 q287.1 (h282.tr h290)) (And.intro rfl (And.intro rfl (And.intro rfl (And.intro rfl trivial))))
            · exact s_drop (hR28 724 (List.mem_of_getElem? (i := 18) rfl) q287.1 (hs22.tr (h282.tr h290))) trivial
          · dsimp only
            refine s_aload_n (pc := 726) 1 dL_law_726 rfl rfl ?_
            refine s_aload_n (pc := 727) 0 dL_law_727 rfl rfl ?_
            refine s_iload_n (pc := 728) 3 dL_law_728 rfl rfl ?_
            refine s_iconst (pc := 729) 1 dL_law_729 kc_1 ?_
            refine s_iadd (pc := 730) dL_law_730 ?_
            refine s_grd (fun i293 => ?_)
            refine s_sld (pc := 731) hX hbl hbA i293 dL_law_731 ?_
            refine s_aload_n (pc := 732) 0 dL_law_732 rfl rfl ?_
            refine s_iload_n (pc := 733) 3 dL_law_733 rfl rfl ?_
            refine s_iconst (pc := 734) 2 dL_law_734 kc_2 ?_
            refine s_iadd (pc := 735) dL_law_735 ?_
            refine s_grd (fun i294 => ?_)
            refine s_sld (pc := 736) hX hbl hbA i294 dL_law_736 ?_
            refine s_bind (fun q295 hq296 => ?_)
            have hC297 := t_X11_steps (l := xl X) (G := xG X) hq296
            refine s_callV (pc := 737) (As := [.int (xS (s21.2 + 1).toNatClampNeg), .int (xS (s21.2 + 2).toNatClampNeg)]) (st := []) (nlt rfl) (q := (RX11, TX11, 16)) rfl rfl o29 cl_X11_steps wi_X11_steps wl_X11_steps km_L_91 rfl rfl (nle rfl) (nle rfl) (nle rfl) dL_law_737 hC297 ?_
            have h298 := hC297.1 X
            have o299 := h298.ok o29
            have o300 := h298.ok o30
            show S0 X _ q295.1 740 [some (.ref bS), some (.ref (gh (xG X) + (mn M))), some (.ref (gh (xG X) + (mn q5))), some (.int s21.2)] [.int q295.2] _
            refine s_aload_n (pc := 740) 2 dL_law_740 rfl rfl ?_
            refine s_aload_n (pc := 741) 0 dL_law_741 rfl rfl ?_
            refine s_iload_n (pc := 742) 3 dL_law_742 rfl rfl ?_
            refine s_iconst (pc := 743) 1 dL_law_743 kc_1 ?_
            refine s_iadd (pc := 744) dL_law_744 ?_
            refine s_grd (fun i301 => ?_)
            refine s_sld (pc := 745) hX hbl hbA i301 dL_law_745 ?_
            refine s_aload_n (pc := 746) 0 dL_law_746 rfl rfl ?_
            refine s_iload_n (pc := 747) 3 dL_law_747 rfl rfl ?_
            refine s_iconst (pc := 748) 2 dL_law_748 kc_2 ?_
            refine s_iadd (pc := 749) dL_law_749 ?_
            refine s_grd (fun i302 => ?_)
            refine s_sld (pc := 750) hX hbl hbA i302 dL_law_750 ?_
            refine s_bind (fun q303 hq304 => ?_)
            have hC305 := t_X12_steps (l := xl X) (G := xG X) hq304
            refine s_callV (pc := 751) (As := [.int (xS (s21.2 + 1).toNatClampNeg), .int (xS (s21.2 + 2).toNatClampNeg)]) (st := [.int q295.2]) (nlt rfl) (q := (RX12, TX12, 59)) rfl rfl o300 cl_X12_steps wi_X12_steps wl_X12_steps km_L_94 rfl rfl (nle rfl) (nle rfl) (nle rfl) dL_law_751 hC305 ?_
            have h306 := hC305.1 X
            have o307 := h306.ok o299
            have o308 := h306.ok o300
            show S0 X _ q303.1 754 [some (.ref bS), some (.ref (gh (xG X) + (mn M))), some (.ref (gh (xG X) + (mn q5))), some (.int s21.2)] [.int q303.2, .int q295.2] _
            refine s_iceq (pc := 754) 1251 dL_law_754 rfl ?_ ?_
            · exact s_drop (hj39 q303.1 (h298.tr h306)) (And.intro rfl (And.intro rfl (And.intro rfl (And.intro rfl trivial))))
            · exact s_drop (hR28 757 (List.mem_of_getElem? (i := 17) rfl) q303.1 (hs22.tr (h298.tr h306))) trivial
          · dsimp only
            refine s_aload_n (pc := 759) 1 dL_law_759 rfl rfl ?_
            refine s_aload_n (pc := 760) 0 dL_law_760 rfl rfl ?_
            refine s_iload_n (pc := 761) 3 dL_law_761 rfl rfl ?_
            refine s_iconst (pc := 762) 1 dL_law_762 kc_1 ?_
            refine s_iadd (pc := 763) dL_law_763 ?_
            refine s_grd (fun i309 => ?_)
            refine s_sld (pc := 764) hX hbl hbA i309 dL_law_764 ?_
            refine s_aload_n (pc := 765) 0 dL_law_765 rfl rfl ?_
            refine s_iload_n (pc := 766) 3 dL_law_766 rfl rfl ?_
            refine s_iconst (pc := 767) 2 dL_law_767 kc_2 ?_
            refine s_iadd (pc := 768) dL_law_768 ?_
            refine s_grd (fun i310 => ?_)
            refine s_sld (pc := 769) hX hbl hbA i310 dL_law_769 ?_
            refine s_aload_n (pc := 770) 0 dL_law_770 rfl rfl ?_
            refine s_iload_n (pc := 771) 3 dL_law_771 rfl rfl ?_
            refine s_iconst (pc := 772) 3 dL_law_772 kc_3 ?_
            refine s_iadd (pc := 773) dL_law_773 ?_
            refine s_grd (fun i311 => ?_)
            refine s_sld (pc := 774) hX hbl hbA i311 dL_law_774 ?_
            refine s_bind (fun q312 hq313 => ?_)
            have hC314 := t_X11_way (l := xl X) (G := xG X) hq313
            refine s_callV (pc := 775) (As := [.int (xS (s21.2 + 1).toNatClampNeg), .int (xS (s21.2 + 2).toNatClampNeg), .int (xS (s21.2 + 3).toNatClampNeg)]) (st := []) (nlt rfl) (q := (RX11, TX11, 16)) rfl rfl o29 cl_X11_way wi_X11_way wl_X11_way km_L_95 rfl rfl (nle rfl) (nle rfl) (nle rfl) dL_law_775 hC314 ?_
            have h315 := hC314.1 X
            have o316 := h315.ok o29
            have o317 := h315.ok o30
            show S0 X _ q312.1 778 [some (.ref bS), some (.ref (gh (xG X) + (mn M))), some (.ref (gh (xG X) + (mn q5))), some (.int s21.2)] [.int q312.2] _
            refine s_aload_n (pc := 778) 2 dL_law_778 rfl rfl ?_
            refine s_aload_n (pc := 779) 0 dL_law_779 rfl rfl ?_
            refine s_iload_n (pc := 780) 3 dL_law_780 rfl rfl ?_
            refine s_iconst (pc := 781) 1 dL_law_781 kc_1 ?_
            refine s_iadd (pc := 782) dL_law_782 ?_
            refine s_grd (fun i318 => ?_)
            refine s_sld (pc := 783) hX hbl hbA i318 dL_law_783 ?_
            refine s_aload_n (pc := 784) 0 dL_law_784 rfl rfl ?_
            refine s_iload_n (pc := 785) 3 dL_law_785 rfl rfl ?_
            refine s_iconst (pc := 786) 2 dL_law_786 kc_2 ?_
            refine s_iadd (pc := 787) dL_law_787 ?_
            refine s_grd (fun i319 => ?_)
            refine s_sld (pc := 788) hX hbl hbA i319 dL_law_788 ?_
            refine s_aload_n (pc := 789) 0 dL_law_789 rfl rfl ?_
            refine s_iload_n (pc := 790) 3 dL_law_790 rfl rfl ?_
            refine s_iconst (pc := 791) 3 dL_law_791 kc_3 ?_
            refine s_iadd (pc := 792) dL_law_792 ?_
            refine s_grd (fun i320 => ?_)
            refine s_sld (pc := 793) hX hbl hbA i320 dL_law_793 ?_
            refine s_bind (fun q321 hq322 => ?_)
            have hC323 := t_X12_way (l := xl X) (G := xG X) hq322
            refine s_callV (pc := 794) (As := [.int (xS (s21.2 + 1).toNatClampNeg), .int (xS (s21.2 + 2).toNatClampNeg), .int (xS (s21.2 + 3).toNatClampNeg)]) (st := [.int q312.2]) (nlt rfl) (q := (RX12, TX12, 59)) rfl rfl o317 cl_X12_way wi_X12_way wl_X12_way km_L_98 rfl rfl (nle rfl) (nle rfl) (nle rfl) dL_law_794 hC323 ?_
            have h324 := hC323.1 X
            have o325 := h324.ok o316
            have o326 := h324.ok o317
            show S0 X _ q321.1 797 [some (.ref bS), some (.ref (gh (xG X) + (mn M))), some (.ref (gh (xG X) + (mn q5))), some (.int s21.2)] [.int q321.2, .int q312.2] _
            refine s_iceq (pc := 797) 1251 dL_law_797 rfl ?_ ?_
            · exact s_drop (hj39 q321.1 (h315.tr h324)) (And.intro rfl (And.intro rfl (And.intro rfl (And.intro rfl trivial))))
            · exact s_drop (hR28 800 (List.mem_of_getElem? (i := 16) rfl) q321.1 (hs22.tr (h315.tr h324))) trivial
          · dsimp only
            refine s_aload_n (pc := 802) 1 dL_law_802 rfl rfl ?_
            refine s_aload_n (pc := 803) 0 dL_law_803 rfl rfl ?_
            refine s_iload_n (pc := 804) 3 dL_law_804 rfl rfl ?_
            refine s_iconst (pc := 805) 1 dL_law_805 kc_1 ?_
            refine s_iadd (pc := 806) dL_law_806 ?_
            refine s_grd (fun i327 => ?_)
            refine s_sld (pc := 807) hX hbl hbA i327 dL_law_807 ?_
            refine s_aload_n (pc := 808) 0 dL_law_808 rfl rfl ?_
            refine s_iload_n (pc := 809) 3 dL_law_809 rfl rfl ?_
            refine s_iconst (pc := 810) 2 dL_law_810 kc_2 ?_
            refine s_iadd (pc := 811) dL_law_811 ?_
            refine s_grd (fun i328 => ?_)
            refine s_sld (pc := 812) hX hbl hbA i328 dL_law_812 ?_
            refine s_bind (fun q329 hq330 => ?_)
            have hC331 := t_X11_between (l := xl X) (G := xG X) hq330
            refine s_callV (pc := 813) (As := [.int (xS (s21.2 + 1).toNatClampNeg), .int (xS (s21.2 + 2).toNatClampNeg)]) (st := []) (nlt rfl) (q := (RX11, TX11, 16)) rfl rfl o29 cl_X11_between wi_X11_between wl_X11_between km_L_99 rfl rfl (nle rfl) (nle rfl) (nle rfl) dL_law_813 hC331 ?_
            have h332 := hC331.1 X
            have o333 := h332.ok o29
            have o334 := h332.ok o30
            show S0 X _ q329.1 816 [some (.ref bS), some (.ref (gh (xG X) + (mn M))), some (.ref (gh (xG X) + (mn q5))), some (.int s21.2)] [.int q329.2] _
            refine s_aload_n (pc := 816) 2 dL_law_816 rfl rfl ?_
            refine s_aload_n (pc := 817) 0 dL_law_817 rfl rfl ?_
            refine s_iload_n (pc := 818) 3 dL_law_818 rfl rfl ?_
            refine s_iconst (pc := 819) 1 dL_law_819 kc_1 ?_
            refine s_iadd (pc := 820) dL_law_820 ?_
            refine s_grd (fun i335 => ?_)
            refine s_sld (pc := 821) hX hbl hbA i335 dL_law_821 ?_
            refine s_aload_n (pc := 822) 0 dL_law_822 rfl rfl ?_
            refine s_iload_n (pc := 823) 3 dL_law_823 rfl rfl ?_
            refine s_iconst (pc := 824) 2 dL_law_824 kc_2 ?_
            refine s_iadd (pc := 825) dL_law_825 ?_
            refine s_grd (fun i336 => ?_)
            refine s_sld (pc := 826) hX hbl hbA i336 dL_law_826 ?_
            refine s_bind (fun q337 hq338 => ?_)
            have hC339 := t_X12_between (l := xl X) (G := xG X) hq338
            refine s_callV (pc := 827) (As := [.int (xS (s21.2 + 1).toNatClampNeg), .int (xS (s21.2 + 2).toNatClampNeg)]) (st := [.int q329.2]) (nlt rfl) (q := (RX12, TX12, 59)) rfl rfl o334 cl_X12_between wi_X12_between wl_X12_between km_L_102 rfl rfl (nle rfl) (nle rfl) (nle rfl) dL_law_827 hC339 ?_
            have h340 := hC339.1 X
            have o341 := h340.ok o333
            have o342 := h340.ok o334
            show S0 X _ q337.1 830 [some (.ref bS), some (.ref (gh (xG X) + (mn M))), some (.ref (gh (xG X) + (mn q5))), some (.int s21.2)] [.int q337.2, .int q329.2] _
            refine s_iceq (pc := 830) 1251 dL_law_830 rfl ?_ ?_
            · exact s_drop (hj39 q337.1 (h332.tr h340)) (And.intro rfl (And.intro rfl (And.intro rfl (And.intro rfl trivial))))
            · exact s_drop (hR28 833 (List.mem_of_getElem? (i := 15) rfl) q337.1 (hs22.tr (h332.tr h340))) trivial
          · dsimp only
            refine s_aload_n (pc := 835) 1 dL_law_835 rfl rfl ?_
            refine s_aload_n (pc := 836) 0 dL_law_836 rfl rfl ?_
            refine s_iload_n (pc := 837) 3 dL_law_837 rfl rfl ?_
            refine s_iconst (pc := 838) 1 dL_law_838 kc_1 ?_
            refine s_iadd (pc := 839) dL_law_839 ?_
            refine s_grd (fun i343 => ?_)
            refine s_sld (pc := 840) hX hbl hbA i343 dL_law_840 ?_
            refine s_bind (fun q344 hq345 => ?_)
            have hC346 := t_X11_judge (l := xl X) (G := xG X) hq345
            refine s_callV (pc := 841) (As := [.int (xS (s21.2 + 1).toNatClampNeg)]) (st := []) (nlt rfl) (q := (RX11, TX11, 16)) rfl rfl o29 cl_X11_judge wi_X11_judge wl_X11_judge km_L_103 rfl rfl (nle rfl) (nle rfl) (nle rfl) dL_law_841 hC346 ?_
            have h347 := hC346.1 X
            have o348 := h347.ok o29
            have o349 := h347.ok o30
            show S0 X _ q344.1 844 [some (.ref bS), some (.ref (gh (xG X) + (mn M))), some (.ref (gh (xG X) + (mn q5))), some (.int s21.2)] [.int q344.2] _
            refine s_aload_n (pc := 844) 2 dL_law_844 rfl rfl ?_
            refine s_aload_n (pc := 845) 0 dL_law_845 rfl rfl ?_
            refine s_iload_n (pc := 846) 3 dL_law_846 rfl rfl ?_
            refine s_iconst (pc := 847) 1 dL_law_847 kc_1 ?_
            refine s_iadd (pc := 848) dL_law_848 ?_
            refine s_grd (fun i350 => ?_)
            refine s_sld (pc := 849) hX hbl hbA i350 dL_law_849 ?_
            refine s_bind (fun q351 hq352 => ?_)
            have hC353 := t_X12_judge (l := xl X) (G := xG X) hq352
            refine s_callV (pc := 850) (As := [.int (xS (s21.2 + 1).toNatClampNeg)]) (st := [.int q344.2]) (nlt rfl) (q := (RX12, TX12, 59)) rfl rfl o349 cl_X12_judge wi_X12_judge wl_X12_judge km_L_106 rfl rfl (nle rfl) (nle rfl) (nle rfl) dL_law_850 hC353 ?_
            have h354 := hC353.1 X
            have o355 := h354.ok o348
            have o356 := h354.ok o349
            show S0 X _ q351.1 853 [some (.ref bS), some (.ref (gh (xG X) + (mn M))), some (.ref (gh (xG X) + (mn q5))), some (.int s21.2)] [.int q351.2, .int q344.2] _
            refine s_iceq (pc := 853) 1251 dL_law_853 rfl ?_ ?_
            · exact s_drop (hj39 q351.1 (h347.tr h354)) (And.intro rfl (And.intro rfl (And.intro rfl (And.intro rfl trivial))))
            · exact s_drop (hR28 856 (List.mem_of_getElem? (i := 14) rfl) q351.1 (hs22.tr (h347.tr h354))) trivial
          · dsimp only
            refine s_aload_n (pc := 858) 1 dL_law_858 rfl rfl ?_
            refine s_aload_n (pc := 859) 0 dL_law_859 rfl rfl ?_
            refine s_iload_n (pc := 860) 3 dL_law_860 rfl rfl ?_
            refine s_iconst (pc := 861) 1 dL_law_861 kc_1 ?_
            refine s_iadd (pc := 862) dL_law_862 ?_
            refine s_grd (fun i357 => ?_)
            refine s_sld (pc := 863) hX hbl hbA i357 dL_law_863 ?_
            refine s_bind (fun q358 hq359 => ?_)
            have hC360 := t_X11_poor (l := xl X) (G := xG X) hq359
            refine s_callV (pc := 864) (As := [.int (xS (s21.2 + 1).toNatClampNeg)]) (st := []) (nlt rfl) (q := (RX11, TX11, 16)) rfl rfl o29 cl_X11_poor wi_X11_poor wl_X11_poor km_L_107 rfl rfl (nle rfl) (nle rfl) (nle rfl) dL_law_864 hC360 ?_
            show S0 X _ s21.1 867 [some (.ref bS), some (.ref (gh (xG X) + (mn M))), some (.ref (gh (xG X) + (mn q5))), some (.int s21.2)] [.int q358] _
            refine s_aload_n (pc := 867) 2 dL_law_867 rfl rfl ?_
            refine s_aload_n (pc := 868) 0 dL_law_868 rfl rfl ?_
            refine s_iload_n (pc := 869) 3 dL_law_869 rfl rfl ?_
            refine s_iconst (pc := 870) 1 dL_law_870 kc_1 ?_
            refine s_iadd (pc := 871) dL_law_871 ?_
            refine s_sld (pc := 872) hX hbl hbA i357 dL_law_872 ?_
            refine s_bind (fun q361 hq362 => ?_)
            have hC363 := t_X12_poor (l := xl X) (G := xG X) hq362
            refine s_callV (pc := 873) (As := [.int (xS (s21.2 + 1).toNatClampNeg)]) (st := [.int q358]) (nlt rfl) (q := (RX12, TX12, 59)) rfl rfl o30 cl_X12_poor wi_X12_poor wl_X12_poor km_L_110 rfl rfl (nle rfl) (nle rfl) (nle rfl) dL_law_873 hC363 ?_
            show S0 X _ s21.1 876 [some (.ref bS), some (.ref (gh (xG X) + (mn M))), some (.ref (gh (xG X) + (mn q5))), some (.int s21.2)] [.int q361, .int q358] _
            refine s_iceq (pc := 876) 1251 dL_law_876 rfl ?_ ?_
            · exact s_drop (hj39 s21.1 Le.rf) (And.intro rfl (And.intro rfl (And.intro rfl (And.intro rfl trivial))))
            · exact s_drop (hR28 879 (List.mem_of_getElem? (i := 13) rfl) s21.1 hs22) trivial
          · dsimp only
            refine s_aload_n (pc := 881) 1 dL_law_881 rfl rfl ?_
            refine s_aload_n (pc := 882) 0 dL_law_882 rfl rfl ?_
            refine s_iload_n (pc := 883) 3 dL_law_883 rfl rfl ?_
            refine s_iconst (pc := 884) 1 dL_law_884 kc_1 ?_
            refine s_iadd (pc := 885) dL_law_885 ?_
            refine s_grd (fun i364 => ?_)
            refine s_sld (pc := 886) hX hbl hbA i364 dL_law_886 ?_
            refine s_aload_n (pc := 887) 0 dL_law_887 rfl rfl ?_
            refine s_iload_n (pc := 888) 3 dL_law_888 rfl rfl ?_
            refine s_iconst (pc := 889) 2 dL_law_889 kc_2 ?_
            refine s_iadd (pc := 890) dL_law_890 ?_
            refine s_grd (fun i365 => ?_)
            refine s_sld (pc := 891) hX hbl hbA i365 dL_law_891 ?_
            refine s_bind (fun q366 hq367 => ?_)
            have hC368 := t_X11_first (l := xl X) (G := xG X) hq367
            refine s_callV (pc := 892) (As := [.int (xS (s21.2 + 1).toNatClampNeg), .int (xS (s21.2 + 2).toNatClampNeg)]) (st := []) (nlt rfl) (q := (RX11, TX11, 16)) rfl rfl o29 cl_X11_first wi_X11_first wl_X11_first km_L_111 rfl rfl (nle rfl) (nle rfl) (nle rfl) dL_law_892 hC368 ?_
            have h369 := hC368.1 X
            have o370 := h369.ok o29
            have o371 := h369.ok o30
            show S0 X _ q366.1 895 [some (.ref bS), some (.ref (gh (xG X) + (mn M))), some (.ref (gh (xG X) + (mn q5))), some (.int s21.2)] [.int q366.2] _
            refine s_aload_n (pc := 895) 2 dL_law_895 rfl rfl ?_
            refine s_aload_n (pc := 896) 0 dL_law_896 rfl rfl ?_
            refine s_iload_n (pc := 897) 3 dL_law_897 rfl rfl ?_
            refine s_iconst (pc := 898) 1 dL_law_898 kc_1 ?_
            refine s_iadd (pc := 899) dL_law_899 ?_
            refine s_grd (fun i372 => ?_)
            refine s_sld (pc := 900) hX hbl hbA i372 dL_law_900 ?_
            refine s_aload_n (pc := 901) 0 dL_law_901 rfl rfl ?_
            refine s_iload_n (pc := 902) 3 dL_law_902 rfl rfl ?_
            refine s_iconst (pc := 903) 2 dL_law_903 kc_2 ?_
            refine s_iadd (pc := 904) dL_law_904 ?_
            refine s_grd (fun i373 => ?_)
            refine s_sld (pc := 905) hX hbl hbA i373 dL_law_905 ?_
            refine s_bind (fun q374 hq375 => ?_)
            have hC376 := t_X12_first (l := xl X) (G := xG X) hq375
            refine s_callV (pc := 906) (As := [.int (xS (s21.2 + 1).toNatClampNeg), .int (xS (s21.2 + 2).toNatClampNeg)]) (st := [.int q366.2]) (nlt rfl) (q := (RX12, TX12, 59)) rfl rfl o371 cl_X12_first wi_X12_first wl_X12_first km_L_114 rfl rfl (nle rfl) (nle rfl) (nle rfl) dL_law_906 hC376 ?_
            have h377 := hC376.1 X
            have o378 := h377.ok o370
            have o379 := h377.ok o371
            show S0 X _ q374.1 909 [some (.ref bS), some (.ref (gh (xG X) + (mn M))), some (.ref (gh (xG X) + (mn q5))), some (.int s21.2)] [.int q374.2, .int q366.2] _
            refine s_iceq (pc := 909) 1251 dL_law_909 rfl ?_ ?_
            · exact s_drop (hj39 q374.1 (h369.tr h377)) (And.intro rfl (And.intro rfl (And.intro rfl (And.intro rfl trivial))))
            · exact s_drop (hR28 912 (List.mem_of_getElem? (i := 12) rfl) q374.1 (hs22.tr (h369.tr h377))) trivial
          · dsimp only
            refine s_aload_n (pc := 914) 1 dL_law_914 rfl rfl ?_
            refine s_aload_n (pc := 915) 0 dL_law_915 rfl rfl ?_
            refine s_iload_n (pc := 916) 3 dL_law_916 rfl rfl ?_
            refine s_iconst (pc := 917) 1 dL_law_917 kc_1 ?_
            refine s_iadd (pc := 918) dL_law_918 ?_
            refine s_grd (fun i380 => ?_)
            refine s_sld (pc := 919) hX hbl hbA i380 dL_law_919 ?_
            refine s_aload_n (pc := 920) 0 dL_law_920 rfl rfl ?_
            refine s_iload_n (pc := 921) 3 dL_law_921 rfl rfl ?_
            refine s_iconst (pc := 922) 2 dL_law_922 kc_2 ?_
            refine s_iadd (pc := 923) dL_law_923 ?_
            refine s_grd (fun i381 => ?_)
            refine s_sld (pc := 924) hX hbl hbA i381 dL_law_924 ?_
            refine s_bind (fun q382 hq383 => ?_)
            have hC384 := t_X11_lines (l := xl X) (G := xG X) hq383
            refine s_callV (pc := 925) (As := [.int (xS (s21.2 + 1).toNatClampNeg), .int (xS (s21.2 + 2).toNatClampNeg)]) (st := []) (nlt rfl) (q := (RX11, TX11, 16)) rfl rfl o29 cl_X11_lines wi_X11_lines wl_X11_lines km_L_115 rfl rfl (nle rfl) (nle rfl) (nle rfl) dL_law_925 hC384 ?_
            have h385 := hC384.1 X
            have o386 := h385.ok o29
            have o387 := h385.ok o30
            show S0 X _ q382.1 928 [some (.ref bS), some (.ref (gh (xG X) + (mn M))), some (.ref (gh (xG X) + (mn q5))), some (.int s21.2)] [.int q382.2] _
            refine s_aload_n (pc := 928) 2 dL_law_928 rfl rfl ?_
            refine s_aload_n (pc := 929) 0 dL_law_929 rfl rfl ?_
            refine s_iload_n (pc := 930) 3 dL_law_930 rfl rfl ?_
            refine s_iconst (pc := 931) 1 dL_law_931 kc_1 ?_
            refine s_iadd (pc := 932) dL_law_932 ?_
            refine s_grd (fun i388 => ?_)
            refine s_sld (pc := 933) hX hbl hbA i388 dL_law_933 ?_
            refine s_aload_n (pc := 934) 0 dL_law_934 rfl rfl ?_
            refine s_iload_n (pc := 935) 3 dL_law_935 rfl rfl ?_
            refine s_iconst (pc := 936) 2 dL_law_936 kc_2 ?_
            refine s_iadd (pc := 937) dL_law_937 ?_
            refine s_grd (fun i389 => ?_)
            refine s_sld (pc := 938) hX hbl hbA i389 dL_law_938 ?_
            refine s_bind (fun q390 hq391 => ?_)
            have hC392 := t_X12_lines (l := xl X) (G := xG X) hq391
            refine s_callV (pc := 939) (As := [.int (xS (s21.2 + 1).toNatClampNeg), .int (xS (s21.2 + 2).toNatClampNeg)]) (st := [.int q382.2]) (nlt rfl) (q := (RX12, TX12, 59)) rfl rfl o387 cl_X12_lines wi_X12_lines wl_X12_lines km_L_118 rfl rfl (nle rfl) (nle rfl) (nle rfl) dL_law_939 hC392 ?_
            have h393 := hC392.1 X
            have o394 := h393.ok o386
            have o395 := h393.ok o387
            show S0 X _ q390.1 942 [some (.ref bS), some (.ref (gh (xG X) + (mn M))), some (.ref (gh (xG X) + (mn q5))), some (.int s21.2)] [.int q390.2, .int q382.2] _
            refine s_iceq (pc := 942) 1251 dL_law_942 rfl ?_ ?_
            · exact s_drop (hj39 q390.1 (h385.tr h393)) (And.intro rfl (And.intro rfl (And.intro rfl (And.intro rfl trivial))))
            · exact s_drop (hR28 945 (List.mem_of_getElem? (i := 11) rfl) q390.1 (hs22.tr (h385.tr h393))) trivial
          · dsimp only
            refine s_aload_n (pc := 947) 1 dL_law_947 rfl rfl ?_
            refine s_aload_n (pc := 948) 0 dL_law_948 rfl rfl ?_
            refine s_iload_n (pc := 949) 3 dL_law_949 rfl rfl ?_
            refine s_iconst (pc := 950) 1 dL_law_950 kc_1 ?_
            refine s_iadd (pc := 951) dL_law_951 ?_
            refine s_grd (fun i396 => ?_)
            refine s_sld (pc := 952) hX hbl hbA i396 dL_law_952 ?_
            refine s_aload_n (pc := 953) 0 dL_law_953 rfl rfl ?_
            refine s_iload_n (pc := 954) 3 dL_law_954 rfl rfl ?_
            refine s_iconst (pc := 955) 2 dL_law_955 kc_2 ?_
            refine s_iadd (pc := 956) dL_law_956 ?_
            refine s_grd (fun i397 => ?_)
            refine s_sld (pc := 957) hX hbl hbA i397 dL_law_957 ?_
            refine s_aload_n (pc := 958) 0 dL_law_958 rfl rfl ?_
            refine s_iload_n (pc := 959) 3 dL_law_959 rfl rfl ?_
            refine s_iconst (pc := 960) 3 dL_law_960 kc_3 ?_
            refine s_iadd (pc := 961) dL_law_961 ?_
            refine s_grd (fun i398 => ?_)
            refine s_sld (pc := 962) hX hbl hbA i398 dL_law_962 ?_
            refine s_bind (fun q399 hq400 => ?_)
            have hC401 := t_X11_odds (l := xl X) (G := xG X) hq400
            refine s_callV (pc := 963) (As := [.int (xS (s21.2 + 1).toNatClampNeg), .int (xS (s21.2 + 2).toNatClampNeg), .int (xS (s21.2 + 3).toNatClampNeg)]) (st := []) (nlt rfl) (q := (RX11, TX11, 16)) rfl rfl o29 cl_X11_odds wi_X11_odds wl_X11_odds km_L_119 rfl rfl (nle rfl) (nle rfl) (nle rfl) dL_law_963 hC401 ?_
            have h402 := hC401.1 X
            have o403 := h402.ok o29
            have o404 := h402.ok o30
            show S0 X _ q399.1 966 [some (.ref bS), some (.ref (gh (xG X) + (mn M))), some (.ref (gh (xG X) + (mn q5))), some (.int s21.2)] [.long q399.2] _
            refine s_aload_n (pc := 966) 2 dL_law_966 rfl rfl ?_
            refine s_aload_n (pc := 967) 0 dL_law_967 rfl rfl ?_
            refine s_iload_n (pc := 968) 3 dL_law_968 rfl rfl ?_
            refine s_iconst (pc := 969) 1 dL_law_969 kc_1 ?_
            refine s_iadd (pc := 970) dL_law_970 ?_
            refine s_grd (fun i405 => ?_)
            refine s_sld (pc := 971) hX hbl hbA i405 dL_law_971 ?_
            refine s_aload_n (pc := 972) 0 dL_law_972 rfl rfl ?_
            refine s_iload_n (pc := 973) 3 dL_law_973 rfl rfl ?_
            refine s_iconst (pc := 974) 2 dL_law_974 kc_2 ?_
            refine s_iadd (pc := 975) dL_law_975 ?_
            refine s_grd (fun i406 => ?_)
            refine s_sld (pc := 976) hX hbl hbA i406 dL_law_976 ?_
            refine s_aload_n (pc := 977) 0 dL_law_977 rfl rfl ?_
            refine s_iload_n (pc := 978) 3 dL_law_978 rfl rfl ?_
            refine s_iconst (pc := 979) 3 dL_law_979 kc_3 ?_
            refine s_iadd (pc := 980) dL_law_980 ?_
            refine s_grd (fun i407 => ?_)
            refine s_sld (pc := 981) hX hbl hbA i407 dL_law_981 ?_
            refine s_bind (fun q408 hq409 => ?_)
            have hC410 := t_X12_odds (l := xl X) (G := xG X) hq409
            refine s_callV (pc := 982) (As := [.int (xS (s21.2 + 1).toNatClampNeg), .int (xS (s21.2 + 2).toNatClampNeg), .int (xS (s21.2 + 3).toNatClampNeg)]) (st := [.long q399.2]) (nlt rfl) (q := (RX12, TX12, 59)) rfl rfl o404 cl_X12_odds wi_X12_odds wl_X12_odds km_L_123 rfl rfl (nle rfl) (nle rfl) (nle rfl) dL_law_982 hC410 ?_
            have h411 := hC410.1 X
            have o412 := h411.ok o403
            have o413 := h411.ok o404
            show S0 X _ q408.1 985 [some (.ref bS), some (.ref (gh (xG X) + (mn M))), some (.ref (gh (xG X) + (mn q5))), some (.int s21.2)] [.long q408.2, .long q399.2] _
            refine s_lcmp (pc := 985) dL_law_985 ?_
            refine s_ifeq (pc := 986) 1251 dL_law_986 rfl ?_ ?_
            · exact s_drop (hj39 q408.1 (h402.tr h411)) (And.intro rfl (And.intro rfl (And.intro rfl (And.intro rfl trivial))))
            · exact s_drop (hR28 989 (List.mem_of_getElem? (i := 10) rfl) q408.1 (hs22.tr (h402.tr h411))) trivial
          · dsimp only
            refine s_aload_n (pc := 991) 1 dL_law_991 rfl rfl ?_
            refine s_aload_n (pc := 992) 0 dL_law_992 rfl rfl ?_
            refine s_iload_n (pc := 993) 3 dL_law_993 rfl rfl ?_
            refine s_iconst (pc := 994) 1 dL_law_994 kc_1 ?_
            refine s_iadd (pc := 995) dL_law_995 ?_
            refine s_grd (fun i414 => ?_)
            refine s_sld (pc := 996) hX hbl hbA i414 dL_law_996 ?_
            refine s_aload_n (pc := 997) 0 dL_law_997 rfl rfl ?_
            refine s_iload_n (pc := 998) 3 dL_law_998 rfl rfl ?_
            refine s_iconst (pc := 999) 2 dL_law_999 kc_2 ?_
            refine s_iadd (pc := 1000) dL_law_1000 ?_
            refine s_grd (fun i415 => ?_)
            refine s_sld (pc := 1001) hX hbl hbA i415 dL_law_1001 ?_
            refine s_bind (fun q416 hq417 => ?_)
            have hC418 := t_X11_likely (l := xl X) (G := xG X) hq417
            refine s_callV (pc := 1002) (As := [.int (xS (s21.2 + 1).toNatClampNeg), .int (xS (s21.2 + 2).toNatClampNeg)]) (st := []) (nlt rfl) (q := (RX11, TX11, 16)) rfl rfl o29 cl_X11_likely wi_X11_likely wl_X11_likely km_L_124 rfl rfl (nle rfl) (nle rfl) (nle rfl) dL_law_1002 hC418 ?_
            have h419 := hC418.1 X
            have o420 := h419.ok o29
            have o421 := h419.ok o30
            show S0 X _ q416.1 1005 [some (.ref bS), some (.ref (gh (xG X) + (mn M))), some (.ref (gh (xG X) + (mn q5))), some (.int s21.2)] [.int q416.2] _
            refine s_aload_n (pc := 1005) 2 dL_law_1005 rfl rfl ?_
            refine s_aload_n (pc := 1006) 0 dL_law_1006 rfl rfl ?_
            refine s_iload_n (pc := 1007) 3 dL_law_1007 rfl rfl ?_
            refine s_iconst (pc := 1008) 1 dL_law_1008 kc_1 ?_
            refine s_iadd (pc := 1009) dL_law_1009 ?_
            refine s_grd (fun i422 => ?_)
            refine s_sld (pc := 1010) hX hbl hbA i422 dL_law_1010 ?_
            refine s_aload_n (pc := 1011) 0 dL_law_1011 rfl rfl ?_
            refine s_iload_n (pc := 1012) 3 dL_law_1012 rfl rfl ?_
            refine s_iconst (pc := 1013) 2 dL_law_1013 kc_2 ?_
            refine s_iadd (pc := 1014) dL_law_1014 ?_
            refine s_grd (fun i423 => ?_)
            refine s_sld (pc := 1015) hX hbl hbA i423 dL_law_1015 ?_
            refine s_bind (fun q424 hq425 => ?_)
            have hC426 := t_X12_likely (l := xl X) (G := xG X) hq425
            refine s_callV (pc := 1016) (As := [.int (xS (s21.2 + 1).toNatClampNeg), .int (xS (s21.2 + 2).toNatClampNeg)]) (st := [.int q416.2]) (nlt rfl) (q := (RX12, TX12, 59)) rfl rfl o421 cl_X12_likely wi_X12_likely wl_X12_likely km_L_127 rfl rfl (nle rfl) (nle rfl) (nle rfl) dL_law_1016 hC426 ?_
            have h427 := hC426.1 X
            have o428 := h427.ok o420
            have o429 := h427.ok o421
            show S0 X _ q424.1 1019 [some (.ref bS), some (.ref (gh (xG X) + (mn M))), some (.ref (gh (xG X) + (mn q5))), some (.int s21.2)] [.int q424.2, .int q416.2] _
            refine s_iceq (pc := 1019) 1251 dL_law_1019 rfl ?_ ?_
            · exact s_drop (hj39 q424.1 (h419.tr h427)) (And.intro rfl (And.intro rfl (And.intro rfl (And.intro rfl trivial))))
            · exact s_drop (hR28 1022 (List.mem_of_getElem? (i := 9) rfl) q424.1 (hs22.tr (h419.tr h427))) trivial
          · dsimp only
            refine s_aload_n (pc := 1024) 1 dL_law_1024 rfl rfl ?_
            refine s_aload_n (pc := 1025) 0 dL_law_1025 rfl rfl ?_
            refine s_iload_n (pc := 1026) 3 dL_law_1026 rfl rfl ?_
            refine s_iconst (pc := 1027) 1 dL_law_1027 kc_1 ?_
            refine s_iadd (pc := 1028) dL_law_1028 ?_
            refine s_grd (fun i430 => ?_)
            refine s_sld (pc := 1029) hX hbl hbA i430 dL_law_1029 ?_
            refine s_aload_n (pc := 1030) 0 dL_law_1030 rfl rfl ?_
            refine s_iload_n (pc := 1031) 3 dL_law_1031 rfl rfl ?_
            refine s_iconst (pc := 1032) 2 dL_law_1032 kc_2 ?_
            refine s_iadd (pc := 1033) dL_law_1033 ?_
            refine s_grd (fun i431 => ?_)
            refine s_sld (pc := 1034) hX hbl hbA i431 dL_law_1034 ?_
            refine s_bind (fun q432 hq433 => ?_)
            have hC434 := t_X11_tastings (l := xl X) (G := xG X) hq433
            refine s_callV (pc := 1035) (As := [.int (xS (s21.2 + 1).toNatClampNeg), .int (xS (s21.2 + 2).toNatClampNeg)]) (st := []) (nlt rfl) (q := (RX11, TX11, 16)) rfl rfl o29 cl_X11_tastings wi_X11_tastings wl_X11_tastings km_L_128 rfl rfl (nle rfl) (nle rfl) (nle rfl) dL_law_1035 hC434 ?_
            show S0 X _ s21.1 1038 [some (.ref bS), some (.ref (gh (xG X) + (mn M))), some (.ref (gh (xG X) + (mn q5))), some (.int s21.2)] [.int q432] _
            refine s_aload_n (pc := 1038) 2 dL_law_1038 rfl rfl ?_
            refine s_aload_n (pc := 1039) 0 dL_law_1039 rfl rfl ?_
            refine s_iload_n (pc := 1040) 3 dL_law_1040 rfl rfl ?_
            refine s_iconst (pc := 1041) 1 dL_law_1041 kc_1 ?_
            refine s_iadd (pc := 1042) dL_law_1042 ?_
            refine s_sld (pc := 1043) hX hbl hbA i430 dL_law_1043 ?_
            refine s_aload_n (pc := 1044) 0 dL_law_1044 rfl rfl ?_
            refine s_iload_n (pc := 1045) 3 dL_law_1045 rfl rfl ?_
            refine s_iconst (pc := 1046) 2 dL_law_1046 kc_2 ?_
            refine s_iadd (pc := 1047) dL_law_1047 ?_
            refine s_sld (pc := 1048) hX hbl hbA i431 dL_law_1048 ?_
            refine s_bind (fun q435 hq436 => ?_)
            have hC437 := t_X12_tastings (l := xl X) (G := xG X) hq436
            refine s_callV (pc := 1049) (As := [.int (xS (s21.2 + 1).toNatClampNeg), .int (xS (s21.2 + 2).toNatClampNeg)]) (st := [.int q432]) (nlt rfl) (q := (RX12, TX12, 59)) rfl rfl o30 cl_X12_tastings wi_X12_tastings wl_X12_tastings km_L_131 rfl rfl (nle rfl) (nle rfl) (nle rfl) dL_law_1049 hC437 ?_
            show S0 X _ s21.1 1052 [some (.ref bS), some (.ref (gh (xG X) + (mn M))), some (.ref (gh (xG X) + (mn q5))), some (.int s21.2)] [.int q435, .int q432] _
            refine s_iceq (pc := 1052) 1251 dL_law_1052 rfl ?_ ?_
            · exact s_drop (hj39 s21.1 Le.rf) (And.intro rfl (And.intro rfl (And.intro rfl (And.intro rfl trivial))))
            · exact s_drop (hR28 1055 (List.mem_of_getElem? (i := 8) rfl) s21.1 hs22) trivial
          · dsimp only
            refine s_aload_n (pc := 1057) 1 dL_law_1057 rfl rfl ?_
            refine s_aload_n (pc := 1058) 0 dL_law_1058 rfl rfl ?_
            refine s_iload_n (pc := 1059) 3 dL_law_1059 rfl rfl ?_
            refine s_iconst (pc := 1060) 1 dL_law_1060 kc_1 ?_
            refine s_iadd (pc := 1061) dL_law_1061 ?_
            refine s_grd (fun i438 => ?_)
            refine s_sld (pc := 1062) hX hbl hbA i438 dL_law_1062 ?_
            refine s_bind (fun q439 hq440 => ?_)
            have hC441 := t_X11_copies (l := xl X) (G := xG X) hq440
            refine s_callV (pc := 1063) (As := [.int (xS (s21.2 + 1).toNatClampNeg)]) (st := []) (nlt rfl) (q := (RX11, TX11, 16)) rfl rfl o29 cl_X11_copies wi_X11_copies wl_X11_copies km_L_132 rfl rfl (nle rfl) (nle rfl) (nle rfl) dL_law_1063 hC441 ?_
            show S0 X _ s21.1 1066 [some (.ref bS), some (.ref (gh (xG X) + (mn M))), some (.ref (gh (xG X) + (mn q5))), some (.int s21.2)] [.int q439] _
            refine s_aload_n (pc := 1066) 2 dL_law_1066 rfl rfl ?_
            refine s_aload_n (pc := 1067) 0 dL_law_1067 rfl rfl ?_
            refine s_iload_n (pc := 1068) 3 dL_law_1068 rfl rfl ?_
            refine s_iconst (pc := 1069) 1 dL_law_1069 kc_1 ?_
            refine s_iadd (pc := 1070) dL_law_1070 ?_
            refine s_sld (pc := 1071) hX hbl hbA i438 dL_law_1071 ?_
            refine s_bind (fun q442 hq443 => ?_)
            have hC444 := t_X12_copies (l := xl X) (G := xG X) hq443
            refine s_callV (pc := 1072) (As := [.int (xS (s21.2 + 1).toNatClampNeg)]) (st := [.int q439]) (nlt rfl) (q := (RX12, TX12, 59)) rfl rfl o30 cl_X12_copies wi_X12_copies wl_X12_copies km_L_135 rfl rfl (nle rfl) (nle rfl) (nle rfl) dL_law_1072 hC444 ?_
            have h445 := hC444.1 X
            have o446 := h445.ok o29
            have o447 := h445.ok o30
            show S0 X _ q442.1 1075 [some (.ref bS), some (.ref (gh (xG X) + (mn M))), some (.ref (gh (xG X) + (mn q5))), some (.int s21.2)] [.int q442.2, .int q439] _
            refine s_iceq (pc := 1075) 1251 dL_law_1075 rfl ?_ ?_
            · exact s_drop (hj39 q442.1 h445) (And.intro rfl (And.intro rfl (And.intro rfl (And.intro rfl trivial))))
            · exact s_drop (hR28 1078 (List.mem_of_getElem? (i := 7) rfl) q442.1 (hs22.tr h445)) trivial
          · dsimp only
            refine s_aload_n (pc := 1080) 1 dL_law_1080 rfl rfl ?_
            refine s_aload_n (pc := 1081) 0 dL_law_1081 rfl rfl ?_
            refine s_iload_n (pc := 1082) 3 dL_law_1082 rfl rfl ?_
            refine s_iconst (pc := 1083) 1 dL_law_1083 kc_1 ?_
            refine s_iadd (pc := 1084) dL_law_1084 ?_
            refine s_grd (fun i448 => ?_)
            refine s_sld (pc := 1085) hX hbl hbA i448 dL_law_1085 ?_
            refine s_bind (fun q449 hq450 => ?_)
            have hC451 := t_X11_stood (l := xl X) (G := xG X) hq450
            refine s_callV (pc := 1086) (As := [.int (xS (s21.2 + 1).toNatClampNeg)]) (st := []) (nlt rfl) (q := (RX11, TX11, 16)) rfl rfl o29 cl_X11_stood wi_X11_stood wl_X11_stood km_L_136 rfl rfl (nle rfl) (nle rfl) (nle rfl) dL_law_1086 hC451 ?_
            show S0 X _ s21.1 1089 [some (.ref bS), some (.ref (gh (xG X) + (mn M))), some (.ref (gh (xG X) + (mn q5))), some (.int s21.2)] [.int q449] _
            refine s_aload_n (pc := 1089) 2 dL_law_1089 rfl rfl ?_
            refine s_aload_n (pc := 1090) 0 dL_law_1090 rfl rfl ?_
            refine s_iload_n (pc := 1091) 3 dL_law_1091 rfl rfl ?_
            refine s_iconst (pc := 1092) 1 dL_law_1092 kc_1 ?_
            refine s_iadd (pc := 1093) dL_law_1093 ?_
            refine s_sld (pc := 1094) hX hbl hbA i448 dL_law_1094 ?_
            refine s_bind (fun q452 hq453 => ?_)
            have hC454 := t_X12_stood (l := xl X) (G := xG X) hq453
            refine s_callV (pc := 1095) (As := [.int (xS (s21.2 + 1).toNatClampNeg)]) (st := [.int q449]) (nlt rfl) (q := (RX12, TX12, 59)) rfl rfl o30 cl_X12_stood wi_X12_stood wl_X12_stood km_L_139 rfl rfl (nle rfl) (nle rfl) (nle rfl) dL_law_1095 hC454 ?_
            have h455 := hC454.1 X
            have o456 := h455.ok o29
            have o457 := h455.ok o30
            show S0 X _ q452.1 1098 [some (.ref bS), some (.ref (gh (xG X) + (mn M))), some (.ref (gh (xG X) + (mn q5))), some (.int s21.2)] [.int q452.2, .int q449] _
            refine s_iceq (pc := 1098) 1251 dL_law_1098 rfl ?_ ?_
            · exact s_drop (hj39 q452.1 h455) (And.intro rfl (And.intro rfl (And.intro rfl (And.intro rfl trivial))))
            · exact s_drop (hR28 1101 (List.mem_of_getElem? (i := 6) rfl) q452.1 (hs22.tr h455)) trivial
          · dsimp only
            refine s_aload_n (pc := 1103) 1 dL_law_1103 rfl rfl ?_
            refine s_aload_n (pc := 1104) 0 dL_law_1104 rfl rfl ?_
            refine s_iload_n (pc := 1105) 3 dL_law_1105 rfl rfl ?_
            refine s_iconst (pc := 1106) 1 dL_law_1106 kc_1 ?_
            refine s_iadd (pc := 1107) dL_law_1107 ?_
            refine s_grd (fun i458 => ?_)
            refine s_sld (pc := 1108) hX hbl hbA i458 dL_law_1108 ?_
            refine s_aload_n (pc := 1109) 0 dL_law_1109 rfl rfl ?_
            refine s_iload_n (pc := 1110) 3 dL_law_1110 rfl rfl ?_
            refine s_iconst (pc := 1111) 2 dL_law_1111 kc_2 ?_
            refine s_iadd (pc := 1112) dL_law_1112 ?_
            refine s_grd (fun i459 => ?_)
            refine s_sld (pc := 1113) hX hbl hbA i459 dL_law_1113 ?_
            refine s_aload_n (pc := 1114) 0 dL_law_1114 rfl rfl ?_
            refine s_iload_n (pc := 1115) 3 dL_law_1115 rfl rfl ?_
            refine s_iconst (pc := 1116) 3 dL_law_1116 kc_3 ?_
            refine s_iadd (pc := 1117) dL_law_1117 ?_
            refine s_grd (fun i460 => ?_)
            refine s_sld (pc := 1118) hX hbl hbA i460 dL_law_1118 ?_
            refine s_bind (fun q461 hq462 => ?_)
            have hC463 := t_X11_line (l := xl X) (G := xG X) hq462
            refine s_callV (pc := 1119) (As := [.int (xS (s21.2 + 1).toNatClampNeg), .int (xS (s21.2 + 2).toNatClampNeg), .int (xS (s21.2 + 3).toNatClampNeg)]) (st := []) (nlt rfl) (q := (RX11, TX11, 16)) rfl rfl o29 cl_X11_line wi_X11_line wl_X11_line km_L_140 rfl rfl (nle rfl) (nle rfl) (nle rfl) dL_law_1119 hC463 ?_
            have h464 := hC463.1 X
            have o465 := h464.ok o29
            have o466 := h464.ok o30
            show S0 X _ q461.1 1122 [some (.ref bS), some (.ref (gh (xG X) + (mn M))), some (.ref (gh (xG X) + (mn q5))), some (.int s21.2)] [.int q461.2] _
            refine s_aload_n (pc := 1122) 2 dL_law_1122 rfl rfl ?_
            refine s_aload_n (pc := 1123) 0 dL_law_1123 rfl rfl ?_
            refine s_iload_n (pc := 1124) 3 dL_law_1124 rfl rfl ?_
            refine s_iconst (pc := 1125) 1 dL_law_1125 kc_1 ?_
            refine s_iadd (pc := 1126) dL_law_1126 ?_
            refine s_grd (fun i467 => ?_)
            refine s_sld (pc := 1127) hX hbl hbA i467 dL_law_1127 ?_
            refine s_aload_n (pc := 1128) 0 dL_law_1128 rfl rfl ?_
            refine s_iload_n (pc := 1129) 3 dL_law_1129 rfl rfl ?_
            refine s_iconst (pc := 1130) 2 dL_law_1130 kc_2 ?_
            refine s_iadd (pc := 1131) dL_law_1131 ?_
            refine s_grd (fun i468 => ?_)
            refine s_sld (pc := 1132) hX hbl hbA i468 dL_law_1132 ?_
            refine s_aload_n (pc := 1133) 0 dL_law_1133 rfl rfl ?_
            refine s_iload_n (pc := 1134) 3 dL_law_1134 rfl rfl ?_
            refine s_iconst (pc := 1135) 3 dL_law_1135 kc_3 ?_
            refine s_iadd (pc := 1136) dL_law_1136 ?_
            refine s_grd (fun i469 => ?_)
            refine s_sld (pc := 1137) hX hbl hbA i469 dL_law_1137 ?_
            refine s_bind (fun q470 hq471 => ?_)
            have hC472 := t_X12_line (l := xl X) (G := xG X) hq471
            refine s_callV (pc := 1138) (As := [.int (xS (s21.2 + 1).toNatClampNeg), .int (xS (s21.2 + 2).toNatClampNeg), .int (xS (s21.2 + 3).toNatClampNeg)]) (st := [.int q461.2]) (nlt rfl) (q := (RX12, TX12, 59)) rfl rfl o466 cl_X12_line wi_X12_line wl_X12_line km_L_143 rfl rfl (nle rfl) (nle rfl) (nle rfl) dL_law_1138 hC472 ?_
            have h473 := hC472.1 X
            have o474 := h473.ok o465
            have o475 := h473.ok o466
            show S0 X _ q470.1 1141 [some (.ref bS), some (.ref (gh (xG X) + (mn M))), some (.ref (gh (xG X) + (mn q5))), some (.int s21.2)] [.int q470.2, .int q461.2] _
            refine s_iceq (pc := 1141) 1251 dL_law_1141 rfl ?_ ?_
            · exact s_drop (hj39 q470.1 (h464.tr h473)) (And.intro rfl (And.intro rfl (And.intro rfl (And.intro rfl trivial))))
            · exact s_drop (hR28 1144 (List.mem_of_getElem? (i := 5) rfl) q470.1 (hs22.tr (h464.tr h473))) trivial
          · dsimp only
            refine s_aload_n (pc := 1146) 1 dL_law_1146 rfl rfl ?_
            refine s_aload_n (pc := 1147) 0 dL_law_1147 rfl rfl ?_
            refine s_iload_n (pc := 1148) 3 dL_law_1148 rfl rfl ?_
            refine s_iconst (pc := 1149) 1 dL_law_1149 kc_1 ?_
            refine s_iadd (pc := 1150) dL_law_1150 ?_
            refine s_grd (fun i476 => ?_)
            refine s_sld (pc := 1151) hX hbl hbA i476 dL_law_1151 ?_
            refine s_bind (fun q477 hq478 => ?_)
            have hC479 := t_X11_drawn (l := xl X) (G := xG X) hq478
            refine s_callV (pc := 1152) (As := [.int (xS (s21.2 + 1).toNatClampNeg)]) (st := []) (nlt rfl) (q := (RX11, TX11, 16)) rfl rfl o29 cl_X11_drawn wi_X11_drawn wl_X11_drawn km_L_144 rfl rfl (nle rfl) (nle rfl) (nle rfl) dL_law_1152 hC479 ?_
            show S0 X _ s21.1 1155 [some (.ref bS), some (.ref (gh (xG X) + (mn M))), some (.ref (gh (xG X) + (mn q5))), some (.int s21.2)] [.int q477] _
            refine s_aload_n (pc := 1155) 2 dL_law_1155 rfl rfl ?_
            refine s_aload_n (pc := 1156) 0 dL_law_1156 rfl rfl ?_
            refine s_iload_n (pc := 1157) 3 dL_law_1157 rfl rfl ?_
            refine s_iconst (pc := 1158) 1 dL_law_1158 kc_1 ?_
            refine s_iadd (pc := 1159) dL_law_1159 ?_
            refine s_sld (pc := 1160) hX hbl hbA i476 dL_law_1160 ?_
            refine s_bind (fun q480 hq481 => ?_)
            have hC482 := t_X12_drawn (l := xl X) (G := xG X) hq481
            refine s_callV (pc := 1161) (As := [.int (xS (s21.2 + 1).toNatClampNeg)]) (st := [.int q477]) (nlt rfl) (q := (RX12, TX12, 59)) rfl rfl o30 cl_X12_drawn wi_X12_drawn wl_X12_drawn km_L_147 rfl rfl (nle rfl) (nle rfl) (nle rfl) dL_law_1161 hC482 ?_
            show S0 X _ s21.1 1164 [some (.ref bS), some (.ref (gh (xG X) + (mn M))), some (.ref (gh (xG X) + (mn q5))), some (.int s21.2)] [.int q480, .int q477] _
            refine s_iceq (pc := 1164) 1251 dL_law_1164 rfl ?_ ?_
            · exact s_drop (hj39 s21.1 Le.rf) (And.intro rfl (And.intro rfl (And.intro rfl (And.intro rfl trivial))))
            · exact s_drop (hR28 1167 (List.mem_of_getElem? (i := 4) rfl) s21.1 hs22) trivial
          · dsimp only
            refine s_aload_n (pc := 1169) 1 dL_law_1169 rfl rfl ?_
            refine s_aload_n (pc := 1170) 0 dL_law_1170 rfl rfl ?_
            refine s_iload_n (pc := 1171) 3 dL_law_1171 rfl rfl ?_
            refine s_iconst (pc := 1172) 1 dL_law_1172 kc_1 ?_
            refine s_iadd (pc := 1173) dL_law_1173 ?_
            refine s_grd (fun i483 => ?_)
            refine s_sld (pc := 1174) hX hbl hbA i483 dL_law_1174 ?_
            refine s_bind (fun q484 hq485 => ?_)
            have hC486 := t_X11_image (l := xl X) (G := xG X) hq485
            refine s_callV (pc := 1175) (As := [.int (xS (s21.2 + 1).toNatClampNeg)]) (st := []) (nlt rfl) (q := (RX11, TX11, 16)) rfl rfl o29 cl_X11_image wi_X11_image wl_X11_image km_L_148 rfl rfl (nle rfl) (nle rfl) (nle rfl) dL_law_1175 hC486 ?_
            have h487 := hC486.1 X
            have o488 := h487.ok o29
            have o489 := h487.ok o30
            show S0 X _ q484.1 1178 [some (.ref bS), some (.ref (gh (xG X) + (mn M))), some (.ref (gh (xG X) + (mn q5))), some (.int s21.2)] [.int q484.2] _
            refine s_aload_n (pc := 1178) 2 dL_law_1178 rfl rfl ?_
            refine s_aload_n (pc := 1179) 0 dL_law_1179 rfl rfl ?_
            refine s_iload_n (pc := 1180) 3 dL_law_1180 rfl rfl ?_
            refine s_iconst (pc := 1181) 1 dL_law_1181 kc_1 ?_
            refine s_iadd (pc := 1182) dL_law_1182 ?_
            refine s_grd (fun i490 => ?_)
            refine s_sld (pc := 1183) hX hbl hbA i490 dL_law_1183 ?_
            refine s_bind (fun q491 hq492 => ?_)
            have hC493 := t_X12_image (l := xl X) (G := xG X) hq492
            refine s_callV (pc := 1184) (As := [.int (xS (s21.2 + 1).toNatClampNeg)]) (st := [.int q484.2]) (nlt rfl) (q := (RX12, TX12, 59)) rfl rfl o489 cl_X12_image wi_X12_image wl_X12_image km_L_151 rfl rfl (nle rfl) (nle rfl) (nle rfl) dL_law_1184 hC493 ?_
            have h494 := hC493.1 X
            have o495 := h494.ok o488
            have o496 := h494.ok o489
            show S0 X _ q491.1 1187 [some (.ref bS), some (.ref (gh (xG X) + (mn M))), some (.ref (gh (xG X) + (mn q5))), some (.int s21.2)] [.int q491.2, .int q484.2] _
            refine s_iceq (pc := 1187) 1251 dL_law_1187 rfl ?_ ?_
            · exact s_drop (hj39 q491.1 (h487.tr h494)) (And.intro rfl (And.intro rfl (And.intro rfl (And.intro rfl trivial))))
            · exact s_drop (hR28 1190 (List.mem_of_getElem? (i := 3) rfl) q491.1 (hs22.tr (h487.tr h494))) trivial
          · dsimp only
            refine s_aload_n (pc := 1192) 1 dL_law_1192 rfl rfl ?_
            refine s_aload_n (pc := 1193) 0 dL_law_1193 rfl rfl ?_
            refine s_iload_n (pc := 1194) 3 dL_law_1194 rfl rfl ?_
            refine s_iconst (pc := 1195) 1 dL_law_1195 kc_1 ?_
            refine s_iadd (pc := 1196) dL_law_1196 ?_
            refine s_grd (fun i497 => ?_)
            refine s_sld (pc := 1197) hX hbl hbA i497 dL_law_1197 ?_
            refine s_bind (fun q498 hq499 => ?_)
            have hC500 := t_X11_back (l := xl X) (G := xG X) hq499
            refine s_callV (pc := 1198) (As := [.int (xS (s21.2 + 1).toNatClampNeg)]) (st := []) (nlt rfl) (q := (RX11, TX11, 16)) rfl rfl o29 cl_X11_back wi_X11_back wl_X11_back km_L_152 rfl rfl (nle rfl) (nle rfl) (nle rfl) dL_law_1198 hC500 ?_
            have h501 := hC500.1 X
            have o502 := h501.ok o29
            have o503 := h501.ok o30
            show S0 X _ q498.1 1201 [some (.ref bS), some (.ref (gh (xG X) + (mn M))), some (.ref (gh (xG X) + (mn q5))), some (.int s21.2)] [.int q498.2] _
            refine s_aload_n (pc := 1201) 2 dL_law_1201 rfl rfl ?_
            refine s_aload_n (pc := 1202) 0 dL_law_1202 rfl rfl ?_
            refine s_iload_n (pc := 1203) 3 dL_law_1203 rfl rfl ?_
            refine s_iconst (pc := 1204) 1 dL_law_1204 kc_1 ?_
            refine s_iadd (pc := 1205) dL_law_1205 ?_
            refine s_grd (fun i504 => ?_)
            refine s_sld (pc := 1206) hX hbl hbA i504 dL_law_1206 ?_
            refine s_bind (fun q505 hq506 => ?_)
            have hC507 := t_X12_back (l := xl X) (G := xG X) hq506
            refine s_callV (pc := 1207) (As := [.int (xS (s21.2 + 1).toNatClampNeg)]) (st := [.int q498.2]) (nlt rfl) (q := (RX12, TX12, 59)) rfl rfl o503 cl_X12_back wi_X12_back wl_X12_back km_L_155 rfl rfl (nle rfl) (nle rfl) (nle rfl) dL_law_1207 hC507 ?_
            have h508 := hC507.1 X
            have o509 := h508.ok o502
            have o510 := h508.ok o503
            show S0 X _ q505.1 1210 [some (.ref bS), some (.ref (gh (xG X) + (mn M))), some (.ref (gh (xG X) + (mn q5))), some (.int s21.2)] [.int q505.2, .int q498.2] _
            refine s_iceq (pc := 1210) 1251 dL_law_1210 rfl ?_ ?_
            · exact s_drop (hj39 q505.1 (h501.tr h508)) (And.intro rfl (And.intro rfl (And.intro rfl (And.intro rfl trivial))))
            · exact s_drop (hR28 1213 (List.mem_of_getElem? (i := 2) rfl) q505.1 (hs22.tr (h501.tr h508))) trivial
          · dsimp only
            refine s_aload_n (pc := 1215) 1 dL_law_1215 rfl rfl ?_
            refine s_aload_n (pc := 1216) 0 dL_law_1216 rfl rfl ?_
            refine s_iload_n (pc := 1217) 3 dL_law_1217 rfl rfl ?_
            refine s_iconst (pc := 1218) 1 dL_law_1218 kc_1 ?_
            refine s_iadd (pc := 1219) dL_law_1219 ?_
            refine s_grd (fun i511 => ?_)
            refine s_sld (pc := 1220) hX hbl hbA i511 dL_law_1220 ?_
            refine s_bind (fun q512 hq513 => ?_)
            have hC514 := t_X11_count (l := xl X) (G := xG X) hq513
            refine s_callV (pc := 1221) (As := [.int (xS (s21.2 + 1).toNatClampNeg)]) (st := []) (nlt rfl) (q := (RX11, TX11, 16)) rfl rfl o29 cl_X11_count wi_X11_count wl_X11_count km_L_156 rfl rfl (nle rfl) (nle rfl) (nle rfl) dL_law_1221 hC514 ?_
            show S0 X _ s21.1 1224 [some (.ref bS), some (.ref (gh (xG X) + (mn M))), some (.ref (gh (xG X) + (mn q5))), some (.int s21.2)] [.int q512] _
            refine s_aload_n (pc := 1224) 2 dL_law_1224 rfl rfl ?_
            refine s_aload_n (pc := 1225) 0 dL_law_1225 rfl rfl ?_
            refine s_iload_n (pc := 1226) 3 dL_law_1226 rfl rfl ?_
            refine s_iconst (pc := 1227) 1 dL_law_1227 kc_1 ?_
            refine s_iadd (pc := 1228) dL_law_1228 ?_
            refine s_sld (pc := 1229) hX hbl hbA i511 dL_law_1229 ?_
            refine s_bind (fun q515 hq516 => ?_)
            have hC517 := t_X12_count (l := xl X) (G := xG X) hq516
            refine s_callV (pc := 1230) (As := [.int (xS (s21.2 + 1).toNatClampNeg)]) (st := [.int q512]) (nlt rfl) (q := (RX12, TX12, 59)) rfl rfl o30 cl_X12_count wi_X12_count wl_X12_count km_L_159 rfl rfl (nle rfl) (nle rfl) (nle rfl) dL_law_1230 hC517 ?_
            show S0 X _ s21.1 1233 [some (.ref bS), some (.ref (gh (xG X) + (mn M))), some (.ref (gh (xG X) + (mn q5))), some (.int s21.2)] [.int q515, .int q512] _
            refine s_iceq (pc := 1233) 1251 dL_law_1233 rfl ?_ ?_
            · exact s_drop (hj39 s21.1 Le.rf) (And.intro rfl (And.intro rfl (And.intro rfl (And.intro rfl trivial))))
            · exact s_drop (hR28 1236 (List.mem_of_getElem? (i := 1) rfl) s21.1 hs22) trivial
          · dsimp only
            refine s_aload_n (pc := 1238) 1 dL_law_1238 rfl rfl ?_
            refine s_bind (fun q518 hq519 => ?_)
            have hC520 := t_X11_status (l := xl X) (G := xG X) hq519
            refine s_callV (pc := 1239) (As := []) (st := []) (nlt rfl) (q := (RX11, TX11, 16)) rfl rfl o29 cl_X11_status wi_X11_status wl_X11_status km_L_160 rfl rfl (nle rfl) (nle rfl) (nle rfl) dL_law_1239 hC520 ?_
            show S0 X _ s21.1 1242 [some (.ref bS), some (.ref (gh (xG X) + (mn M))), some (.ref (gh (xG X) + (mn q5))), some (.int s21.2)] [.int q518] _
            refine s_aload_n (pc := 1242) 2 dL_law_1242 rfl rfl ?_
            refine s_bind (fun q521 hq522 => ?_)
            have hC523 := t_X12_status (l := xl X) (G := xG X) hq522
            refine s_callV (pc := 1243) (As := []) (st := [.int q518]) (nlt rfl) (q := (RX12, TX12, 59)) rfl rfl o30 cl_X12_status wi_X12_status wl_X12_status km_L_163 rfl rfl (nle rfl) (nle rfl) (nle rfl) dL_law_1243 hC523 ?_
            show S0 X _ s21.1 1246 [some (.ref bS), some (.ref (gh (xG X) + (mn M))), some (.ref (gh (xG X) + (mn q5))), some (.int s21.2)] [.int q521, .int q518] _
            refine s_iceq (pc := 1246) 1251 dL_law_1246 rfl ?_ ?_
            · exact s_drop (hj39 s21.1 Le.rf) (And.intro rfl (And.intro rfl (And.intro rfl (And.intro rfl trivial))))
            · exact s_drop (hR28 1249 (List.mem_of_getElem? (i := 0) rfl) s21.1 hs22) trivial
        · exact s_drop (hj39 s21.1 Le.rf) (And.intro rfl (And.intro rfl (And.intro rfl (And.intro rfl trivial))))
