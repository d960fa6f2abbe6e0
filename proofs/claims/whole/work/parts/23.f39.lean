set_option maxRecDepth 100000 in
set_option maxHeartbeats 8000000 in
noncomputable def f_X12_orders (M : Mem) (a0 : Nat) : Option (Mem × Int32) :=
  grd (okO M 12 a0) (bv (wI M a0 46 (-1)) (fun M2 => bv (wI M2 a0 14 1) (fun M6 => Option.bind (f_X12_reads M6 a0) (fun q10 => if q10.2 = 0 then (Option.bind (f_X12_refuses q10.1 a0 (-6)) (fun q96 => some (q96.1, q96.2))) else (Option.bind (mR q10.1 a0 3) (fun r15 => grd (okO q10.1 14 r15) (grd (vp_in 56 (mL q10.1 r15)) (bv (mI q10.1 r15 (56 : Int32).toNatClampNeg : Int32) (fun x18 => Option.bind (mR q10.1 a0 3) (fun r19 => grd (okO q10.1 14 r19) (grd (vp_in 54 (mL q10.1 r19)) (bv (mI q10.1 r19 (54 : Int32).toNatClampNeg : Int32) (fun x22 => Option.bind (f_X12_lays q10.1 a0 6) (fun q23 => bv (wI q23 a0 47 0) (fun M28 => bv (wI M28 a0 48 (-1)) (fun M32 => bv (wI M32 a0 49 2400) (fun M36 => Option.bind (mR M36 a0 3) (fun r40 => grd (okO M36 14 r40) (grd (vp_in 65 (mL M36 r40)) (bv ((mI M36 a0 49) + (mI M36 r40 (65 : Int32).toNatClampNeg) : Int32) (fun x43 => Option.bind (loopO (σ := Mem × Int32) (ρ := Mem ⊕ (Mem × Int32 × Int32)) (fun s44 => if x43 ≤ (mI s44.1 a0 49) then (some (.inr (.inl s44.1))) else (Option.bind (f_X12_runs s44.1 a0 x43) (fun q57 => if q57.2 = 0 then (bv (s44.2 + 1 : Int32) (fun x62 => some (.inl (q57.1, x62)))) else (some (.inr (.inr (q57.1, s44.2, q57.2))))))) (M36, 0)) (Sum.elim (fun (x53 : Mem) => Option.bind (f_X12_good x53 a0 (mI x53 a0 47)) (fun q64 => some (q64.1, q64.2))) (fun (x55 : Mem × Int32 × Int32) => Option.bind (mR x55.1 a0 3) (fun r70 => grd (okO x55.1 14 r70) (grd (vp_in 56 (mL x55.1 r70)) (bv (wI x55.1 r70 (56 : Int32).toNatClampNeg x18) (fun M73 => Option.bind (mR M73 a0 3) (fun r77 => grd (okO M73 14 r77) (grd (vp_in 54 (mL M73 r77)) (bv (wI M73 r77 (54 : Int32).toNatClampNeg x22) (fun M80 => bv (wI M80 a0 46 x55.2.1) (fun M84 => bv (fun (s89 : Int32) => Option.bind (f_X12_refuses M84 a0 s89) (fun q92 => some (q92.1, q92.2))) (fun j88 => if x55.2.2 = (-5) then (j88 (-5)) else (j88 (-3)))))))))))))))))))))))))))))))))))
abbrev Y_X12_orders : Sta := (RX12, "orders", cX12_orders, 6, (some .int), 210)
set_option maxRecDepth 100000 in
set_option maxHeartbeats 8000000 in
theorem t_X12_orders {l : Launch} {G : Gh} {M : Mem} {a0 : Nat} {q : Mem × Int32} (h : f_X12_orders M a0 = some q) : Ctr l G yX12_orders Y_X12_orders M [.ref (gh G + a0)] q.1 (some (.int q.2)) := by
  refine Ctr.of (Y := Y_X12_orders) (L := [some (.ref (gh G + a0)), none, none, none, none, none]) (t := Option.bind (f_X12_orders M a0) (fun q => some (q.1, some (.int q.2)))) (by decide) rfl rfl (nle rfl) (Lof_in 5 _ rfl) (fun X hG hl => ?_) (by rw [h]; rfl)
  subst hG
  subst hl
  unfold f_X12_orders
  refine s_aload_n (pc := 0) 0 dX12_orders_0 rfl rfl ?_
  refine s_iconst (pc := 1) (-1) dX12_orders_1 kc_m1 ?_
  refine s_grd (fun o1 => ?_)
  refine s_puti (pc := 2) F_12 46 rfl o1 rfl rfl rfl dX12_orders_2 kf_X12_111 (fun M2 hM3 => ?_)
  have h4 := le_wI hM3
  have o5 := h4.ok o1
  refine s_aload_n (pc := 5) 0 dX12_orders_5 rfl rfl ?_
  refine s_iconst (pc := 6) 1 dX12_orders_6 kc_1 ?_
  refine s_puti (pc := 7) F_12 14 rfl o5 rfl rfl (by decide) dX12_orders_7 kf_X12_249 (fun M6 hM7 => ?_)
  have h8 := le_wI hM7
  have o9 := h8.ok o5
  refine s_aload_n (pc := 10) 0 dX12_orders_10 rfl rfl ?_
  refine s_bind (fun q10 hq11 => ?_)
  have hC12 := t_X12_reads (l := xl X) (G := xG X) hq11
  refine s_callV (pc := 11) (As := []) (st := []) (nlt rfl) (q := (RX12, TX12, 59)) rfl rfl o9 cl_X12_reads wi_X12_reads wl_X12_reads km_X12_300 rfl rfl (nle rfl) (nle rfl) (nle rfl) dX12_orders_11 hC12 ?_
  have h13 := hC12.1 X
  have o14 := h13.ok o9
  show S0 X _ q10.1 14 [some (.ref (gh (xG X) + a0)), none, none, none, none, none] [.int q10.2] _
  refine s_ifne (pc := 14) 24 dX12_orders_14 rfl ?_ ?_
  · refine s_aload_n (pc := 24) 0 dX12_orders_24 rfl rfl ?_
    refine s_geto (pc := 25) F_12 3 rfl o14 dX12_orders_25 kf_X12_20 ?_
    refine s_rvB (fun r15 => ?_)
    refine s_bipush (pc := 28) 56 dX12_orders_28 kb_56 ?_
    refine s_grd (fun o16 => ?_)
    refine s_grd (fun i17 => ?_)
    refine s_iald (pc := 30) o16 i17 dX12_orders_30 ?_
    refine s_istore_n (pc := 31) 1 dX12_orders_31 rfl (nlt rfl) rfl (L' := [some (.ref (gh (xG X) + a0)), some (.int (mI q10.1 r15 (56 : Int32).toNatClampNeg)), none, none, none, none]) rfl ?_
    refine s_bv (fun x18 : Int32 => [some (.ref (gh (xG X) + a0)), some (.int x18), none, none, none, none]) (fun x18 => ?_) rfl
    refine s_aload_n (pc := 32) 0 dX12_orders_32 rfl rfl ?_
    refine s_geto (pc := 33) F_12 3 rfl o14 dX12_orders_33 kf_X12_20 ?_
    refine s_rvB (fun r19 => ?_)
    refine s_bipush (pc := 36) 54 dX12_orders_36 kb_54 ?_
    refine s_grd (fun o20 => ?_)
    refine s_grd (fun i21 => ?_)
    refine s_iald (pc := 38) o20 i21 dX12_orders_38 ?_
    refine s_istore_n (pc := 39) 2 dX12_orders_39 rfl (nlt rfl) rfl (L' := [some (.ref (gh (xG X) + a0)), some (.int x18), some (.int (mI q10.1 r19 (54 : Int32).toNatClampNeg)), none, none, none]) rfl ?_
    refine s_bv (fun x22 : Int32 => [some (.ref (gh (xG X) + a0)), some (.int x18), some (.int x22), none, none, none]) (fun x22 => ?_) rfl
    refine s_aload_n (pc := 40) 0 dX12_orders_40 rfl rfl ?_
    refine s_bipush (pc := 41) 6 dX12_orders_41 kb_6 ?_
    refine s_bind (fun q23 hq24 => ?_)
    have hC25 := t_X12_lays (l := xl X) (G := xG X) hq24
    refine s_callV (pc := 43) (As := [.int 6]) (st := []) (nlt rfl) (q := (RX12, TX12, 59)) rfl rfl o14 cl_X12_lays wi_X12_lays wl_X12_lays km_X12_303 rfl rfl (nle rfl) (nle rfl) (nle rfl) dX12_orders_43 hC25 ?_
    have h26 := hC25.1 X
    have o27 := h26.ok o14
    show S0 X _ q23 46 [some (.ref (gh (xG X) + a0)), some (.int x18), some (.int x22), none, none, none] [] _
    refine s_aload_n (pc := 46) 0 dX12_orders_46 rfl rfl ?_
    refine s_iconst (pc := 47) 0 dX12_orders_47 kc_0 ?_
    refine s_puti (pc := 48) F_12 47 rfl o27 rfl rfl rfl dX12_orders_48 kf_X12_419 (fun M28 hM29 => ?_)
    have h30 := le_wI hM29
    have o31 := h30.ok o27
    refine s_aload_n (pc := 51) 0 dX12_orders_51 rfl rfl ?_
    refine s_iconst (pc := 52) (-1) dX12_orders_52 kc_m1 ?_
    refine s_puti (pc := 53) F_12 48 rfl o31 rfl rfl rfl dX12_orders_53 kf_X12_422 (fun M32 hM33 => ?_)
    have h34 := le_wI hM33
    have o35 := h34.ok o31
    refine s_aload_n (pc := 56) 0 dX12_orders_56 rfl rfl ?_
    refine s_sipush (pc := 57) 2400 dX12_orders_57 ks_2400 ?_
    refine s_puti (pc := 60) F_12 49 rfl o35 rfl rfl rfl dX12_orders_60 kf_X12_425 (fun M36 hM37 => ?_)
    have h38 := le_wI hM37
    have o39 := h38.ok o35
    refine s_aload_n (pc := 63) 0 dX12_orders_63 rfl rfl ?_
    refine s_geti (pc := 64) F_12 49 rfl o39 dX12_orders_64 kf_X12_425 ?_
    refine s_aload_n (pc := 67) 0 dX12_orders_67 rfl rfl ?_
    refine s_geto (pc := 68) F_12 3 rfl o39 dX12_orders_68 kf_X12_20 ?_
    refine s_rvB (fun r40 => ?_)
    refine s_bipush (pc := 71) 65 dX12_orders_71 kb_65 ?_
    refine s_grd (fun o41 => ?_)
    refine s_grd (fun i42 => ?_)
    refine s_iald (pc := 73) o41 i42 dX12_orders_73 ?_
    refine s_iadd (pc := 74) dX12_orders_74 ?_
    refine s_istore_n (pc := 75) 3 dX12_orders_75 rfl (nlt rfl) rfl (L' := [some (.ref (gh (xG X) + a0)), some (.int x18), some (.int x22), some (.int ((mI M36 a0 49) + (mI M36 r40 (65 : Int32).toNatClampNeg))), none, none]) rfl ?_
    refine s_bv (fun x43 : Int32 => [some (.ref (gh (xG X) + a0)), some (.int x18), some (.int x22), some (.int x43), none, none]) (fun x43 => ?_) rfl
    refine s_iconst (pc := 76) 0 dX12_orders_76 kc_0 ?_
    refine s_istore (pc := 77) dX12_orders_77 (nlt rfl) rfl (L' := [some (.ref (gh (xG X) + a0)), some (.int x18), some (.int x22), some (.int x43), some (.int 0), none]) rfl ?_
    refine s_drop (L' := [some (.ref (gh (xG X) + a0)), some (.int x18), some (.int x22), some (.int x43), some (.int 0), none]) ?_ (And.intro rfl (And.intro rfl (And.intro rfl (And.intro rfl (And.intro rfl trivial)))))
    refine s_loop2 M36 (fun s44 : Mem × Int32 => s44.1) (fun s44 : Mem × Int32 => [some (.ref (gh (xG X) + a0)), some (.int x18), some (.int x22), some (.int x43), some (.int s44.2), none]) (fun x53 : Mem => x53) 149 (fun x53 : Mem => [some (.ref (gh (xG X) + a0)), none, none, none, none, none]) (fun x55 : Mem × Int32 × Int32 => x55.1) 102 (fun x55 : Mem × Int32 × Int32 => [some (.ref (gh (xG X) + a0)), some (.int x18), some (.int x22), none, some (.int x55.2.1), some (.int x55.2.2)]) (fun x53 hx54 => ?_) (fun x55 hx56 => ?_) (fun T46 R48 R50 hT47 hR49 hR51 s44 hs45 => ?_) (M36, 0) Le.rf
    · show S0 X _ x53 149 [some (.ref (gh (xG X) + a0)), none, none, none, none, none] [] _
      have o63 := hx54.ok o39
      refine s_aload_n (pc := 149) 0 dX12_orders_149 rfl rfl ?_
      refine s_aload_n (pc := 150) 0 dX12_orders_150 rfl rfl ?_
      refine s_geti (pc := 151) F_12 47 rfl o63 dX12_orders_151 kf_X12_419 ?_
      refine s_bind (fun q64 hq65 => ?_)
      have hC66 := t_X12_good (l := xl X) (G := xG X) hq65
      refine s_callV (pc := 154) (As := [.int (mI x53 a0 47)]) (st := []) (nlt rfl) (q := (RX12, TX12, 59)) rfl rfl o63 cl_X12_good wi_X12_good wl_X12_good km_X12_131 rfl rfl (nle rfl) (nle rfl) (nle rfl) dX12_orders_154 hC66 ?_
      have h67 := hC66.1 X
      have o68 := h67.ok o63
      show S0 X _ q64.1 157 [some (.ref (gh (xG X) + a0)), none, none, none, none, none] [.int q64.2] _
      exact s_iret rfl dX12_orders_157
    · show S0 X _ x55.1 102 [some (.ref (gh (xG X) + a0)), some (.int x18), some (.int x22), none, some (.int x55.2.1), some (.int x55.2.2)] [] _
      have o69 := hx56.ok o39
      refine s_aload_n (pc := 102) 0 dX12_orders_102 rfl rfl ?_
      refine s_geto (pc := 103) F_12 3 rfl o69 dX12_orders_103 kf_X12_20 ?_
      refine s_rvB (fun r70 => ?_)
      refine s_bipush (pc := 106) 56 dX12_orders_106 kb_56 ?_
      refine s_iload_n (pc := 108) 1 dX12_orders_108 rfl rfl ?_
      refine s_grd (fun o71 => ?_)
      refine s_grd (fun i72 => ?_)
      refine s_iast (pc := 109) o71 i72 dX12_orders_109 (fun M73 hM74 => ?_)
      have h75 := le_wI hM74
      have o76 := h75.ok o69
      refine s_aload_n (pc := 110) 0 dX12_orders_110 rfl rfl ?_
      refine s_geto (pc := 111) F_12 3 rfl o76 dX12_orders_111 kf_X12_20 ?_
      refine s_rvB (fun r77 => ?_)
      refine s_bipush (pc := 114) 54 dX12_orders_114 kb_54 ?_
      refine s_iload_n (pc := 116) 2 dX12_orders_116 rfl rfl ?_
      refine s_grd (fun o78 => ?_)
      refine s_grd (fun i79 => ?_)
      refine s_iast (pc := 117) o78 i79 dX12_orders_117 (fun M80 hM81 => ?_)
      have h82 := le_wI hM81
      have o83 := h82.ok o76
      refine s_aload_n (pc := 118) 0 dX12_orders_118 rfl rfl ?_
      refine s_iload (pc := 119) dX12_orders_119 rfl ?_
      refine s_puti (pc := 121) F_12 46 rfl o83 rfl rfl rfl dX12_orders_121 kf_X12_111 (fun M84 hM85 => ?_)
      have h86 := le_wI hM85
      have o87 := h86.ok o83
      refine s_aload_n (pc := 124) 0 dX12_orders_124 rfl rfl ?_
      refine s_iload (pc := 125) dX12_orders_125 rfl ?_
      refine s_bipush (pc := 127) (-5) dX12_orders_127 kb_m5 ?_
      refine s_join M84 (fun s89 : Int32 => M84) 139 (fun s89 : Int32 => [none, none, none, none, none, none]) (fun s89 : Int32 => [.int s89, .ref (gh (xG X) + a0)]) (fun s89 hs90 => ?_) (fun j88 hj91 => ?_)
      · show S0 X _ M84 139 [none, none, none, none, none, none] [.int s89, .ref (gh (xG X) + a0)] _
        refine s_bind (fun q92 hq93 => ?_)
        have hC94 := t_X12_refuses (l := xl X) (G := xG X) hq93
        refine s_callV (pc := 139) (As := [.int s89]) (st := []) (nlt rfl) (q := (RX12, TX12, 59)) rfl rfl o87 cl_X12_refuses wi_X12_refuses wl_X12_refuses km_X12_127 rfl rfl (nle rfl) (nle rfl) (nle rfl) dX12_orders_139 hC94 ?_
        have h95 := hC94.1 X
        show S0 X _ q92.1 142 [none, none, none, none, none, none] [.int q92.2] _
        exact s_iret rfl dX12_orders_142
      · refine s_icne (pc := 129) 137 dX12_orders_129 rfl ?_ ?_
        · refine s_bipush (pc := 137) (-3) dX12_orders_137 kb_m3 ?_
          exact s_drop (hj91 (-3) Le.rf) trivial
        · refine s_bipush (pc := 132) (-5) dX12_orders_132 kb_m5 ?_
          refine s_goto (pc := 134) 139 dX12_orders_134 rfl ?_
          exact s_drop (hj91 (-5) Le.rf) trivial
    · show S0 X _ s44.1 79 [some (.ref (gh (xG X) + a0)), some (.int x18), some (.int x22), some (.int x43), some (.int s44.2), none] [] _
      have o52 := hs45.ok o39
      refine s_aload_n (pc := 79) 0 dX12_orders_79 rfl rfl ?_
      refine s_geti (pc := 80) F_12 49 rfl o52 dX12_orders_80 kf_X12_425 ?_
      refine s_iload_n (pc := 83) 3 dX12_orders_83 rfl rfl ?_
      refine s_icge (pc := 84) 149 dX12_orders_84 rfl ?_ ?_
      · exact s_drop (hR49 s44.1 hs45) (And.intro rfl trivial)
      · refine s_aload_n (pc := 87) 0 dX12_orders_87 rfl rfl ?_
        refine s_iload_n (pc := 88) 3 dX12_orders_88 rfl rfl ?_
        refine s_bind (fun q57 hq58 => ?_)
        have hC59 := t_X12_runs (l := xl X) (G := xG X) hq58
        refine s_callV (pc := 89) (As := [.int x43]) (st := []) (nlt rfl) (q := (RX12, TX12, 59)) rfl rfl o52 cl_X12_runs wi_X12_runs wl_X12_runs km_X12_428 rfl rfl (nle rfl) (nle rfl) (nle rfl) dX12_orders_89 hC59 ?_
        have h60 := hC59.1 X
        have o61 := h60.ok o52
        show S0 X _ q57.1 92 [some (.ref (gh (xG X) + a0)), some (.int x18), some (.int x22), some (.int x43), some (.int s44.2), none] [.int q57.2] _
        refine s_istore (pc := 92) dX12_orders_92 (nlt rfl) rfl (L' := [some (.ref (gh (xG X) + a0)), some (.int x18), some (.int x22), some (.int x43), some (.int s44.2), some (.int q57.2)]) rfl ?_
        refine s_iload (pc := 94) dX12_orders_94 rfl ?_
        refine s_ifne (pc := 96) 102 dX12_orders_96 rfl ?_ ?_
        · exact s_drop (hR51 (q57.1, s44.2, q57.2) (hs45.tr h60)) (And.intro rfl (And.intro rfl (And.intro rfl (And.intro rfl (And.intro rfl trivial)))))
        · refine s_goto (pc := 99) 143 dX12_orders_99 rfl ?_
          refine s_iinc (pc := 143) dX12_orders_143 rfl (v := s44.2 + 1) (congrArg (fun z : Int32 => s44.2 + z) kc_1) (nlt rfl) rfl (L' := [some (.ref (gh (xG X) + a0)), some (.int x18), some (.int x22), some (.int x43), some (.int (s44.2 + 1)), some (.int q57.2)]) rfl ?_
          refine s_bv (fun x62 : Int32 => [some (.ref (gh (xG X) + a0)), some (.int x18), some (.int x22), some (.int x43), some (.int x62), some (.int q57.2)]) (fun x62 => ?_) rfl
          refine s_goto (pc := 146) 79 dX12_orders_146 rfl ?_
          exact s_drop (hT47 (q57.1, x62) (hs45.tr h60)) (And.intro rfl (And.intro rfl (And.intro rfl (And.intro rfl (And.intro rfl trivial)))))
  · refine s_aload_n (pc := 17) 0 dX12_orders_17 rfl rfl ?_
    refine s_bipush (pc := 18) (-6) dX12_orders_18 kb_m6 ?_
    refine s_bind (fun q96 hq97 => ?_)
    have hC98 := t_X12_refuses (l := xl X) (G := xG X) hq97
    refine s_callV (pc := 20) (As := [.int (-6)]) (st := []) (nlt rfl) (q := (RX12, TX12, 59)) rfl rfl o14 cl_X12_refuses wi_X12_refuses wl_X12_refuses km_X12_127 rfl rfl (nle rfl) (nle rfl) (nle rfl) dX12_orders_20 hC98 ?_
    have h99 := hC98.1 X
    have o100 := h99.ok o14
    show S0 X _ q96.1 23 [some (.ref (gh (xG X) + a0)), none, none, none, none, none] [.int q96.2] _
    exact s_iret rfl dX12_orders_23
set_option maxRecDepth 100000 in
set_option maxHeartbeats 8000000 in
noncomputable def f_X12_steps (M : Mem) (a0 : Nat) (p1 : Int32) (p2 : Int32) : Option (Mem × Int32) :=
  Option.bind (f_X12_isDish p1) (fun q1 => if q1 = 0 then (some (M, (-1))) else (Option.bind (f_X12_isDish p2) (fun q4 => if q4 = 0 then (some (M, (-1))) else (Option.bind (f_X12_placeOf p1) (fun q7 => grd (okO M 12 a0) (Option.bind (f_X12_measures M a0 q7) (fun q11 => Option.bind (mR q11 a0 35) (fun r16 => Option.bind (f_X12_placeOf p2) (fun q17 => grd (okO q11 14 r16) (grd (vp_in q17 (mL q11 r16)) (if (mI q11 r16 q17.toNatClampNeg) = 1000000 then (some (q11, (-1))) else (Option.bind (mR q11 a0 35) (fun r22 => Option.bind (f_X12_placeOf p2) (fun q23 => grd (okO q11 14 r22) (grd (vp_in q23 (mL q11 r22)) (some (q11, mI q11 r22 q23.toNatClampNeg)))))))))))))))))
abbrev Y_X12_steps : Sta := (RX12, "steps", cX12_steps, 3, (some .int), 210)
set_option maxRecDepth 100000 in
set_option maxHeartbeats 8000000 in
theorem t_X12_steps {l : Launch} {G : Gh} {M : Mem} {a0 : Nat} {p1 : Int32} {p2 : Int32} {q : Mem × Int32} (h : f_X12_steps M a0 p1 p2 = some q) : Ctr l G yX12_steps Y_X12_steps M [.ref (gh G + a0), .int p1, .int p2] q.1 (some (.int q.2)) := by
  refine Ctr.of (Y := Y_X12_steps) (L := [some (.ref (gh G + a0)), some (.int p1), some (.int p2)]) (t := Option.bind (f_X12_steps M a0 p1 p2) (fun q => some (q.1, some (.int q.2)))) (by decide) rfl rfl (nle rfl) (Lof_in 0 _ rfl) (fun X hG hl => ?_) (by rw [h]; rfl)
  subst hG
  subst hl
  unfold f_X12_steps
  refine s_iload_n (pc := 0) 1 dX12_steps_0 rfl rfl ?_
  refine s_bind (fun q1 hq2 => ?_)
  have hC3 := t_X12_isDish (l := xl X) (G := xG X) (M := M) hq2
  refine s_callS (pc := 1) (As := [.int p1]) (st := []) cl_X12_isDish wt_X12_isDish km_X12_184 rfl rfl (nle rfl) (nle rfl) (nle rfl) dX12_steps_1 hC3 ?_
  show S0 X _ M 4 [some (.ref (gh (xG X) + a0)), some (.int p1), some (.int p2)] [.int q1] _
  refine s_ifeq (pc := 4) 14 dX12_steps_4 rfl ?_ ?_
  · refine s_iconst (pc := 14) (-1) dX12_steps_14 kc_m1 ?_
    exact s_iret rfl dX12_steps_15
  · refine s_iload_n (pc := 7) 2 dX12_steps_7 rfl rfl ?_
    refine s_bind (fun q4 hq5 => ?_)
    have hC6 := t_X12_isDish (l := xl X) (G := xG X) (M := M) hq5
    refine s_callS (pc := 8) (As := [.int p2]) (st := []) cl_X12_isDish wt_X12_isDish km_X12_184 rfl rfl (nle rfl) (nle rfl) (nle rfl) dX12_steps_8 hC6 ?_
    show S0 X _ M 11 [some (.ref (gh (xG X) + a0)), some (.int p1), some (.int p2)] [.int q4] _
    refine s_ifne (pc := 11) 16 dX12_steps_11 rfl ?_ ?_
    · refine s_aload_n (pc := 16) 0 dX12_steps_16 rfl rfl ?_
      refine s_iload_n (pc := 17) 1 dX12_steps_17 rfl rfl ?_
      refine s_bind (fun q7 hq8 => ?_)
      have hC9 := t_X12_placeOf (l := xl X) (G := xG X) (M := M) hq8
      refine s_callS (pc := 18) (As := [.int p1]) (st := [.ref (gh (xG X) + a0)]) cl_X12_placeOf wt_X12_placeOf km_X12_362 rfl rfl (nle rfl) (nle rfl) (nle rfl) dX12_steps_18 hC9 ?_
      show S0 X _ M 21 [some (.ref (gh (xG X) + a0)), some (.int p1), some (.int p2)] [.int q7, .ref (gh (xG X) + a0)] _
      refine s_grd (fun o10 => ?_)
      refine s_bind (fun q11 hq12 => ?_)
      have hC13 := t_X12_measures (l := xl X) (G := xG X) hq12
      refine s_callV (pc := 21) (As := [.int q7]) (st := []) (nlt rfl) (q := (RX12, TX12, 59)) rfl rfl o10 cl_X12_measures wi_X12_measures wl_X12_measures km_X12_368 rfl rfl (nle rfl) (nle rfl) (nle rfl) dX12_steps_21 hC13 ?_
      have h14 := hC13.1 X
      have o15 := h14.ok o10
      show S0 X _ q11 24 [some (.ref (gh (xG X) + a0)), some (.int p1), some (.int p2)] [] _
      refine s_aload_n (pc := 24) 0 dX12_steps_24 rfl rfl ?_
      refine s_geto (pc := 25) F_12 35 rfl o15 dX12_steps_25 kf_X12_77 ?_
      refine s_rvB (fun r16 => ?_)
      refine s_iload_n (pc := 28) 2 dX12_steps_28 rfl rfl ?_
      refine s_bind (fun q17 hq18 => ?_)
      have hC19 := t_X12_placeOf (l := xl X) (G := xG X) (M := q11) hq18
      refine s_callS (pc := 29) (As := [.int p2]) (st := [.ref (gh (xG X) + r16)]) cl_X12_placeOf wt_X12_placeOf km_X12_362 rfl rfl (nle rfl) (nle rfl) (nle rfl) dX12_steps_29 hC19 ?_
      show S0 X _ q11 32 [some (.ref (gh (xG X) + a0)), some (.int p1), some (.int p2)] [.int q17, .ref (gh (xG X) + r16)] _
      refine s_grd (fun o20 => ?_)
      refine s_grd (fun i21 => ?_)
      refine s_iald (pc := 32) o20 i21 dX12_steps_32 ?_
      refine s_ldc (pc := 33) dX12_steps_33 ki_X12_229 ?_
      refine s_icne (pc := 35) 42 dX12_steps_35 rfl ?_ ?_
      · refine s_aload_n (pc := 42) 0 dX12_steps_42 rfl rfl ?_
        refine s_geto (pc := 43) F_12 35 rfl o15 dX12_steps_43 kf_X12_77 ?_
        refine s_rvB (fun r22 => ?_)
        refine s_iload_n (pc := 46) 2 dX12_steps_46 rfl rfl ?_
        refine s_bind (fun q23 hq24 => ?_)
        have hC25 := t_X12_placeOf (l := xl X) (G := xG X) (M := q11) hq24
        refine s_callS (pc := 47) (As := [.int p2]) (st := [.ref (gh (xG X) + r22)]) cl_X12_placeOf wt_X12_placeOf km_X12_362 rfl rfl (nle rfl) (nle rfl) (nle rfl) dX12_steps_47 hC25 ?_
        show S0 X _ q11 50 [some (.ref (gh (xG X) + a0)), some (.int p1), some (.int p2)] [.int q23, .ref (gh (xG X) + r22)] _
        refine s_grd (fun o26 => ?_)
        refine s_grd (fun i27 => ?_)
        refine s_iald (pc := 50) o26 i27 dX12_steps_50 ?_
        exact s_iret rfl dX12_steps_51
      · refine s_iconst (pc := 38) (-1) dX12_steps_38 kc_m1 ?_
        refine s_goto (pc := 39) 51 dX12_steps_39 rfl ?_
        exact s_iret rfl dX12_steps_51
    · refine s_iconst (pc := 14) (-1) dX12_steps_14 kc_m1 ?_
      exact s_iret rfl dX12_steps_15
set_option maxRecDepth 100000 in
set_option maxHeartbeats 8000000 in
noncomputable def f_X12_way (M : Mem) (a0 : Nat) (p1 : Int32) (p2 : Int32) (p3 : Int32) : Option (Mem × Int32) :=
  Option.bind (f_X12_isDish p1) (fun q1 => if q1 = 0 then (some (M, (-1))) else (Option.bind (f_X12_isDish p2) (fun q4 => if q4 = 0 then (some (M, (-1))) else (if 0 ≤ p3 then (Option.bind (f_X12_placeOf p1) (fun q7 => grd (okO M 12 a0) (Option.bind (f_X12_measures M a0 q7) (fun q11 => Option.bind (mR q11 a0 35) (fun r16 => Option.bind (f_X12_placeOf p2) (fun q17 => grd (okO q11 14 r16) (grd (vp_in q17 (mL q11 r16)) (bv (mI q11 r16 q17.toNatClampNeg : Int32) (fun x22 => if x22 = 1000000 then (some (q11, (-1))) else (if p3 ≤ x22 then (Option.bind (loopO (σ := Mem × Int32) (ρ := Mem) (fun s23 => if 9331 ≤ s23.2 then (some (.inr s23.1)) else (Option.bind (mR s23.1 a0 37) (fun r32 => Option.bind (f_X12_placeOf p2) (fun q33 => bv (fun (s37 : Int32) => grd (okO s23.1 17 r32) (grd (vp_in s23.2 (mL s23.1 r32)) (bv (wI s23.1 r32 s23.2.toNatClampNeg (vp_nar .boolean s37)) (fun M42 => bv (s23.2 + 1 : Int32) (fun x46 => some (.inl (M42, x46))))))) (fun j36 => if s23.2 = q33 then (j36 1) else (j36 0)))))) (q11, 0)) (fun (x30 : Mem) => bv (x22 - 1 : Int32) (fun x48 => Option.bind (loopO (σ := Mem × Int32) (ρ := Mem) (fun s49 => if s49.2 < 0 then (some (.inr s49.1)) else (Option.bind (loopO (σ := Mem × Int32) (ρ := Mem) (fun s58 => if 9331 ≤ s58.2 then (some (.inr s58.1)) else (Option.bind (mR s58.1 a0 35) (fun r67 => grd (okO s58.1 14 r67) (grd (vp_in s58.2 (mL s58.1 r67)) (bv (fun (s71 : Mem) => bv (s58.2 + 1 : Int32) (fun x75 => some (.inl (s71, x75)))) (fun j70 => if (mI s58.1 r67 s58.2.toNatClampNeg) = s49.2 then (Option.bind (loopO (σ := Mem × Int32) (ρ := Mem) (fun s76 => Option.bind (mR s76.1 a0 33) (fun r85 => grd (okO s76.1 14 r85) (grd (vp_in s58.2 (mL s76.1 r85)) (if (mI s76.1 r85 s58.2.toNatClampNeg) ≤ s76.2 then (some (.inr s76.1)) else (Option.bind (mR s76.1 a0 37) (fun r88 => Option.bind (mR s76.1 a0 37) (fun r89 => grd (okO s76.1 17 r89) (grd (vp_in s58.2 (mL s76.1 r89)) (bv (fun (s93 : Int32) => grd (okO s76.1 17 r88) (grd (vp_in s58.2 (mL s76.1 r88)) (bv (wI s76.1 r88 s58.2.toNatClampNeg (vp_nar .boolean s93)) (fun M98 => bv (s76.2 + 1 : Int32) (fun x102 => some (.inl (M98, x102))))))) (fun j92 => bv (fun (s104 : Unit) => j92 1) (fun j103 => if (mI s76.1 r89 s58.2.toNatClampNeg) = 0 then (Option.bind (mR s76.1 a0 37) (fun r107 => Option.bind (mR s76.1 a0 32) (fun r108 => grd (okO s76.1 14 r108) (grd (vp_in ((46 * s58.2) + s76.2) (mL s76.1 r108)) (grd (okO s76.1 17 r107) (grd (vp_in (mI s76.1 r108 ((46 * s58.2) + s76.2).toNatClampNeg) (mL s76.1 r107)) (bv (fun (s114 : Unit) => j92 0) (fun j113 => if (mI s76.1 r107 (mI s76.1 r108 ((46 * s58.2) + s76.2).toNatClampNeg).toNatClampNeg) = 0 then (j113 ()) else (Option.bind (mR s76.1 a0 35) (fun r117 => Option.bind (mR s76.1 a0 32) (fun r118 => grd (okO s76.1 14 r118) (grd (vp_in ((46 * s58.2) + s76.2) (mL s76.1 r118)) (grd (okO s76.1 14 r117) (grd (vp_in (mI s76.1 r118 ((46 * s58.2) + s76.2).toNatClampNeg) (mL s76.1 r117)) (if (mI s76.1 r117 (mI s76.1 r118 ((46 * s58.2) + s76.2).toNatClampNeg).toNatClampNeg) = (s49.2 + 1) then (j103 ()) else (j113 ())))))))))))))))) else (j103 ())))))))))))) (s58.1, 0)) (fun (x83 : Mem) => j70 x83)) else (j70 s58.1))))))) (s49.1, 0)) (fun (x65 : Mem) => bv (s49.2 + (-1) : Int32) (fun x125 => some (.inl (x65, x125)))))) (x30, x48)) (fun (x56 : Mem) => Option.bind (f_X12_placeOf p1) (fun q127 => Option.bind (loopO (σ := Int32 × Int32) (ρ := Int32) (fun s130 => if p3 ≤ s130.2 then (some (.inr s130.1)) else (Option.bind (loopO (σ := Int32 × Int32) (ρ := Int32) (fun s138 => Option.bind (mR x56 a0 33) (fun r146 => grd (okO x56 14 r146) (grd (vp_in s130.1 (mL x56 r146)) (if (mI x56 r146 s130.1.toNatClampNeg) ≤ s138.2 then (some (.inr s138.1)) else (Option.bind (mR x56 a0 32) (fun r149 => grd (okO x56 14 r149) (grd (vp_in ((46 * s130.1) + s138.2) (mL x56 r149)) (bv (mI x56 r149 ((46 * s130.1) + s138.2).toNatClampNeg : Int32) (fun x152 => Option.bind (mR x56 a0 37) (fun r153 => grd (okO x56 17 r153) (grd (vp_in x152 (mL x56 r153)) (bv (fun (s157 : Int32) => bv (s138.2 + 1 : Int32) (fun x160 => some (.inl (s157, x160)))) (fun j156 => if (mI x56 r153 x152.toNatClampNeg) = 0 then (j156 s138.1) else (Option.bind (mR x56 a0 35) (fun r161 => grd (okO x56 14 r161) (grd (vp_in x152 (mL x56 r161)) (if (mI x56 r161 x152.toNatClampNeg) = (s130.2 + 1) then (if s138.1 ≤ x152 then (j156 s138.1) else (j156 x152)) else (j156 s138.1)))))))))))))))))) (9331, 0)) (fun (x144 : Int32) => bv (s130.2 + 1 : Int32) (fun x164 => some (.inl (x144, x164)))))) (q127, 0)) (fun (x136 : Int32) => Option.bind (f_X12_dishAt x136) (fun q165 => some (x56, q165)))))))) else (some (q11, (-1))))))))))))) else (some (M, (-1)))))))
abbrev Y_X12_way : Sta := (RX12, "way", cX12_way, 10, (some .int), 210)
set_option maxRecDepth 100000 in
set_option maxHeartbeats 8000000 in
theorem t_X12_way {l : Launch} {G : Gh} {M : Mem} {a0 : Nat} {p1 : Int32} {p2 : Int32} {p3 : Int32} {q : Mem × Int32} (h : f_X12_way M a0 p1 p2 p3 = some q) : Ctr l G yX12_way Y_X12_way M [.ref (gh G + a0), .int p1, .int p2, .int p3] q.1 (some (.int q.2)) := by
  refine Ctr.of (Y := Y_X12_way) (L := [some (.ref (gh G + a0)), some (.int p1), some (.int p2), some (.int p3), none, none, none, none, none, none]) (t := Option.bind (f_X12_way M a0 p1 p2 p3) (fun q => some (q.1, some (.int q.2)))) (by decide) rfl rfl (nle rfl) (Lof_in 6 _ rfl) (fun X hG hl => ?_) (by rw [h]; rfl)
  subst hG
  subst hl
  unfold f_X12_way
  refine s_iload_n (pc := 0) 1 dX12_way_0 rfl rfl ?_
  refine s_bind (fun q1 hq2 => ?_)
  have hC3 := t_X12_isDish (l := xl X) (G := xG X) (M := M) hq2
  refine s_callS (pc := 1) (As := [.int p1]) (st := []) cl_X12_isDish wt_X12_isDish km_X12_184 rfl rfl (nle rfl) (nle rfl) (nle rfl) dX12_way_1 hC3 ?_
  show S0 X _ M 4 [some (.ref (gh (xG X) + a0)), some (.int p1), some (.int p2), some (.int p3), none, none, none, none, none, none] [.int q1] _
  refine s_ifeq (pc := 4) 18 dX12_way_4 rfl ?_ ?_
  · refine s_iconst (pc := 18) (-1) dX12_way_18 kc_m1 ?_
    exact s_iret rfl dX12_way_19
  · refine s_iload_n (pc := 7) 2 dX12_way_7 rfl rfl ?_
    refine s_bind (fun q4 hq5 => ?_)
    have hC6 := t_X12_isDish (l := xl X) (G := xG X) (M := M) hq5
    refine s_callS (pc := 8) (As := [.int p2]) (st := []) cl_X12_isDish wt_X12_isDish km_X12_184 rfl rfl (nle rfl) (nle rfl) (nle rfl) dX12_way_8 hC6 ?_
    show S0 X _ M 11 [some (.ref (gh (xG X) + a0)), some (.int p1), some (.int p2), some (.int p3), none, none, none, none, none, none] [.int q4] _
    refine s_ifeq (pc := 11) 18 dX12_way_11 rfl ?_ ?_
    · refine s_iconst (pc := 18) (-1) dX12_way_18 kc_m1 ?_
      exact s_iret rfl dX12_way_19
    · refine s_iload_n (pc := 14) 3 dX12_way_14 rfl rfl ?_
      refine s_ifge (pc := 15) 20 dX12_way_15 rfl ?_ ?_
      · refine s_aload_n (pc := 20) 0 dX12_way_20 rfl rfl ?_
        refine s_iload_n (pc := 21) 1 dX12_way_21 rfl rfl ?_
        refine s_bind (fun q7 hq8 => ?_)
        have hC9 := t_X12_placeOf (l := xl X) (G := xG X) (M := M) hq8
        refine s_callS (pc := 22) (As := [.int p1]) (st := [.ref (gh (xG X) + a0)]) cl_X12_placeOf wt_X12_placeOf km_X12_362 rfl rfl (nle rfl) (nle rfl) (nle rfl) dX12_way_22 hC9 ?_
        show S0 X _ M 25 [some (.ref (gh (xG X) + a0)), some (.int p1), some (.int p2), some (.int p3), none, none, none, none, none, none] [.int q7, .ref (gh (xG X) + a0)] _
        refine s_grd (fun o10 => ?_)
        refine s_bind (fun q11 hq12 => ?_)
        have hC13 := t_X12_measures (l := xl X) (G := xG X) hq12
        refine s_callV (pc := 25) (As := [.int q7]) (st := []) (nlt rfl) (q := (RX12, TX12, 59)) rfl rfl o10 cl_X12_measures wi_X12_measures wl_X12_measures km_X12_368 rfl rfl (nle rfl) (nle rfl) (nle rfl) dX12_way_25 hC13 ?_
        have h14 := hC13.1 X
        have o15 := h14.ok o10
        show S0 X _ q11 28 [some (.ref (gh (xG X) + a0)), some (.int p1), some (.int p2), some (.int p3), none, none, none, none, none, none] [] _
        refine s_aload_n (pc := 28) 0 dX12_way_28 rfl rfl ?_
        refine s_geto (pc := 29) F_12 35 rfl o15 dX12_way_29 kf_X12_77 ?_
        refine s_rvB (fun r16 => ?_)
        refine s_iload_n (pc := 32) 2 dX12_way_32 rfl rfl ?_
        refine s_bind (fun q17 hq18 => ?_)
        have hC19 := t_X12_placeOf (l := xl X) (G := xG X) (M := q11) hq18
        refine s_callS (pc := 33) (As := [.int p2]) (st := [.ref (gh (xG X) + r16)]) cl_X12_placeOf wt_X12_placeOf km_X12_362 rfl rfl (nle rfl) (nle rfl) (nle rfl) dX12_way_33 hC19 ?_
        show S0 X _ q11 36 [some (.ref (gh (xG X) + a0)), some (.int p1), some (.int p2), some (.int p3), none, none, none, none, none, none] [.int q17, .ref (gh (xG X) + r16)] _
        refine s_grd (fun o20 => ?_)
        refine s_grd (fun i21 => ?_)
        refine s_iald (pc := 36) o20 i21 dX12_way_36 ?_
        refine s_istore (pc := 37) dX12_way_37 (nlt rfl) rfl (L' := [some (.ref (gh (xG X) + a0)), some (.int p1), some (.int p2), some (.int p3), some (.int (mI q11 r16 q17.toNatClampNeg)), none, none, none, none, none]) rfl ?_
        refine s_bv (fun x22 : Int32 => [some (.ref (gh (xG X) + a0)), some (.int p1), some (.int p2), some (.int p3), some (.int x22), none, none, none, none, none]) (fun x22 => ?_) rfl
        refine s_iload (pc := 39) dX12_way_39 rfl ?_
        refine s_ldc (pc := 41) dX12_way_41 ki_X12_229 ?_
        refine s_iceq (pc := 43) 52 dX12_way_43 rfl ?_ ?_
        · refine s_iconst (pc := 52) (-1) dX12_way_52 kc_m1 ?_
          exact s_iret rfl dX12_way_53
        · refine s_iload_n (pc := 46) 3 dX12_way_46 rfl rfl ?_
          refine s_iload (pc := 47) dX12_way_47 rfl ?_
          refine s_icle (pc := 49) 54 dX12_way_49 rfl ?_ ?_
          · refine s_iconst (pc := 54) 0 dX12_way_54 kc_0 ?_
            refine s_istore (pc := 55) dX12_way_55 (nlt rfl) rfl (L' := [some (.ref (gh (xG X) + a0)), some (.int p1), some (.int p2), some (.int p3), some (.int x22), some (.int 0), none, none, none, none]) rfl ?_
            refine s_drop (L' := [some (.ref (gh (xG X) + a0)), some (.int p1), some (.int p2), some (.int p3), some (.int x22), some (.int 0), none, none, none, none]) ?_ (And.intro rfl (And.intro rfl (And.intro rfl (And.intro rfl (And.intro rfl (And.intro rfl trivial))))))
            refine s_loop1 q11 (fun s23 : Mem × Int32 => s23.1) (fun s23 : Mem × Int32 => [some (.ref (gh (xG X) + a0)), some (.int p1), some (.int p2), some (.int p3), some (.int x22), some (.int s23.2), none, none, none, none]) (fun x30 : Mem => x30) 92 (fun x30 : Mem => [some (.ref (gh (xG X) + a0)), some (.int p1), none, some (.int p3), some (.int x22), none, none, none, none, none]) (fun x30 hx31 => ?_) (fun T25 R27 hT26 hR28 s23 hs24 => ?_) (q11, 0) Le.rf
            · show S0 X _ x30 92 [some (.ref (gh (xG X) + a0)), some (.int p1), none, some (.int p3), some (.int x22), none, none, none, none, none] [] _
              have o47 := hx31.ok o15
              refine s_iload (pc := 92) dX12_way_92 rfl ?_
              refine s_iconst (pc := 94) 1 dX12_way_94 kc_1 ?_
              refine s_isub (pc := 95) dX12_way_95 ?_
              refine s_istore (pc := 96) dX12_way_96 (nlt rfl) rfl (L' := [some (.ref (gh (xG X) + a0)), some (.int p1), none, some (.int p3), some (.int x22), some (.int (x22 - 1)), none, none, none, none]) rfl ?_
              refine s_bv (fun x48 : Int32 => [some (.ref (gh (xG X) + a0)), some (.int p1), none, some (.int p3), some (.int x22), some (.int x48), none, none, none, none]) (fun x48 => ?_) rfl
              refine s_drop (L' := [some (.ref (gh (xG X) + a0)), some (.int p1), none, some (.int p3), none, some (.int x48), none, none, none, none]) ?_ (And.intro rfl (And.intro rfl (And.intro rfl (And.intro rfl trivial))))
              refine s_loop1 x30 (fun s49 : Mem × Int32 => s49.1) (fun s49 : Mem × Int32 => [some (.ref (gh (xG X) + a0)), some (.int p1), none, some (.int p3), none, some (.int s49.2), none, none, none, none]) (fun x56 : Mem => x56) 230 (fun x56 : Mem => [some (.ref (gh (xG X) + a0)), some (.int p1), none, some (.int p3), none, none, none, none, none, none]) (fun x56 hx57 => ?_) (fun T51 R53 hT52 hR54 s49 hs50 => ?_) (x30, x48) Le.rf
              · show S0 X _ x56 230 [some (.ref (gh (xG X) + a0)), some (.int p1), none, some (.int p3), none, none, none, none, none, none] [] _
                have o126 := hx57.ok o47
                refine s_iload_n (pc := 230) 1 dX12_way_230 rfl rfl ?_
                refine s_bind (fun q127 hq128 => ?_)
                have hC129 := t_X12_placeOf (l := xl X) (G := xG X) (M := x56) hq128
                refine s_callS (pc := 231) (As := [.int p1]) (st := []) cl_X12_placeOf wt_X12_placeOf km_X12_362 rfl rfl (nle rfl) (nle rfl) (nle rfl) dX12_way_231 hC129 ?_
                show S0 X _ x56 234 [some (.ref (gh (xG X) + a0)), some (.int p1), none, some (.int p3), none, none, none, none, none, none] [.int q127] _
                refine s_istore (pc := 234) dX12_way_234 (nlt rfl) rfl (L' := [some (.ref (gh (xG X) + a0)), some (.int p1), none, some (.int p3), none, some (.int q127), none, none, none, none]) rfl ?_
                refine s_iconst (pc := 236) 0 dX12_way_236 kc_0 ?_
                refine s_istore (pc := 237) dX12_way_237 (nlt rfl) rfl (L' := [some (.ref (gh (xG X) + a0)), some (.int p1), none, some (.int p3), none, some (.int q127), some (.int 0), none, none, none]) rfl ?_
                refine s_drop (L' := [some (.ref (gh (xG X) + a0)), none, none, some (.int p3), none, some (.int q127), some (.int 0), none, none, none]) ?_ (And.intro rfl (And.intro rfl (And.intro rfl (And.intro rfl trivial))))
                refine s_loop1 x56 (fun s130 : Int32 × Int32 => x56) (fun s130 : Int32 × Int32 => [some (.ref (gh (xG X) + a0)), none, none, some (.int p3), none, some (.int s130.1), some (.int s130.2), none, none, none]) (fun x136 : Int32 => x56) 331 (fun x136 : Int32 => [none, none, none, none, none, some (.int x136), none, none, none, none]) (fun x136 hx137 => ?_) (fun T132 R134 hT133 hR135 s130 hs131 => ?_) (q127, 0) Le.rf
                · show S0 X _ x56 331 [none, none, none, none, none, some (.int x136), none, none, none, none] [] _
                  refine s_iload (pc := 331) dX12_way_331 rfl ?_
                  refine s_bind (fun q165 hq166 => ?_)
                  have hC167 := t_X12_dishAt (l := xl X) (G := xG X) (M := x56) hq166
                  refine s_callS (pc := 333) (As := [.int x136]) (st := []) cl_X12_dishAt wt_X12_dishAt km_X12_359 rfl rfl (nle rfl) (nle rfl) (nle rfl) dX12_way_333 hC167 ?_
                  show S0 X _ x56 336 [none, none, none, none, none, some (.int x136), none, none, none, none] [.int q165] _
                  exact s_iret rfl dX12_way_336
                · show S0 X _ x56 239 [some (.ref (gh (xG X) + a0)), none, none, some (.int p3), none, some (.int s130.1), some (.int s130.2), none, none, none] [] _
                  refine s_iload (pc := 239) dX12_way_239 rfl ?_
                  refine s_iload_n (pc := 241) 3 dX12_way_241 rfl rfl ?_
                  refine s_icge (pc := 242) 331 dX12_way_242 rfl ?_ ?_
                  · exact s_drop (hR135 s130.1 Le.rf) (And.intro rfl trivial)
                  · refine s_sipush (pc := 245) 9331 dX12_way_245 ks_9331 ?_
                    refine s_istore (pc := 248) dX12_way_248 (nlt rfl) rfl (L' := [some (.ref (gh (xG X) + a0)), none, none, some (.int p3), none, some (.int s130.1), some (.int s130.2), some (.int 9331), none, none]) rfl ?_
                    refine s_iconst (pc := 250) 0 dX12_way_250 kc_0 ?_
                    refine s_istore (pc := 251) dX12_way_251 (nlt rfl) rfl (L' := [some (.ref (gh (xG X) + a0)), none, none, some (.int p3), none, some (.int s130.1), some (.int s130.2), some (.int 9331), some (.int 0), none]) rfl ?_
                    refine s_drop (L' := [some (.ref (gh (xG X) + a0)), none, none, some (.int p3), none, some (.int s130.1), some (.int s130.2), some (.int 9331), some (.int 0), none]) ?_ (And.intro rfl (And.intro rfl (And.intro rfl (And.intro rfl (And.intro rfl (And.intro rfl trivial))))))
                    refine s_loop1 x56 (fun s138 : Int32 × Int32 => x56) (fun s138 : Int32 × Int32 => [some (.ref (gh (xG X) + a0)), none, none, some (.int p3), none, some (.int s130.1), some (.int s130.2), some (.int s138.1), some (.int s138.2), none]) (fun x144 : Int32 => x56) 321 (fun x144 : Int32 => [some (.ref (gh (xG X) + a0)), none, none, some (.int p3), none, none, some (.int s130.2), some (.int x144), none, none]) (fun x144 hx145 => ?_) (fun T140 R142 hT141 hR143 s138 hs139 => ?_) (9331, 0) Le.rf
                    · show S0 X _ x56 321 [some (.ref (gh (xG X) + a0)), none, none, some (.int p3), none, none, some (.int s130.2), some (.int x144), none, none] [] _
                      refine s_iload (pc := 321) dX12_way_321 rfl ?_
                      refine s_istore (pc := 323) dX12_way_323 (nlt rfl) rfl (L' := [some (.ref (gh (xG X) + a0)), none, none, some (.int p3), none, some (.int x144), some (.int s130.2), some (.int x144), none, none]) rfl ?_
                      refine s_iinc (pc := 325) dX12_way_325 rfl (v := s130.2 + 1) (congrArg (fun z : Int32 => s130.2 + z) kc_1) (nlt rfl) rfl (L' := [some (.ref (gh (xG X) + a0)), none, none, some (.int p3), none, some (.int x144), some (.int (s130.2 + 1)), some (.int x144), none, none]) rfl ?_
                      refine s_bv (fun x164 : Int32 => [some (.ref (gh (xG X) + a0)), none, none, some (.int p3), none, some (.int x144), some (.int x164), some (.int x144), none, none]) (fun x164 => ?_) rfl
                      refine s_goto (pc := 328) 239 dX12_way_328 rfl ?_
                      exact s_drop (hT133 (x144, x164) Le.rf) (And.intro rfl (And.intro rfl (And.intro rfl (And.intro rfl trivial))))
                    · show S0 X _ x56 253 [some (.ref (gh (xG X) + a0)), none, none, some (.int p3), none, some (.int s130.1), some (.int s130.2), some (.int s138.1), some (.int s138.2), none] [] _
                      refine s_iload (pc := 253) dX12_way_253 rfl ?_
                      refine s_aload_n (pc := 255) 0 dX12_way_255 rfl rfl ?_
                      refine s_geto (pc := 256) F_12 33 rfl o126 dX12_way_256 kf_X12_71 ?_
                      refine s_rvB (fun r146 => ?_)
                      refine s_iload (pc := 259) dX12_way_259 rfl ?_
                      refine s_grd (fun o147 => ?_)
                      refine s_grd (fun i148 => ?_)
                      refine s_iald (pc := 261) o147 i148 dX12_way_261 ?_
                      refine s_icge (pc := 262) 321 dX12_way_262 rfl ?_ ?_
                      · exact s_drop (hR143 s138.1 Le.rf) (And.intro rfl (And.intro rfl (And.intro rfl (And.intro rfl trivial))))
                      · refine s_aload_n (pc := 265) 0 dX12_way_265 rfl rfl ?_
                        refine s_geto (pc := 266) F_12 32 rfl o126 dX12_way_266 kf_X12_68 ?_
                        refine s_rvB (fun r149 => ?_)
                        refine s_bipush (pc := 269) 46 dX12_way_269 kb_46 ?_
                        refine s_iload (pc := 271) dX12_way_271 rfl ?_
                        refine s_imul (pc := 273) dX12_way_273 ?_
                        refine s_iload (pc := 274) dX12_way_274 rfl ?_
                        refine s_iadd (pc := 276) dX12_way_276 ?_
                        refine s_grd (fun o150 => ?_)
                        refine s_grd (fun i151 => ?_)
                        refine s_iald (pc := 277) o150 i151 dX12_way_277 ?_
                        refine s_istore (pc := 278) dX12_way_278 (nlt rfl) rfl (L' := [some (.ref (gh (xG X) + a0)), none, none, some (.int p3), none, some (.int s130.1), some (.int s130.2), some (.int s138.1), some (.int s138.2), some (.int (mI x56 r149 ((46 * s130.1) + s138.2).toNatClampNeg))]) rfl ?_
                        refine s_bv (fun x152 : Int32 => [some (.ref (gh (xG X) + a0)), none, none, some (.int p3), none, some (.int s130.1), some (.int s130.2), some (.int s138.1), some (.int s138.2), some (.int x152)]) (fun x152 => ?_) rfl
                        refine s_aload_n (pc := 280) 0 dX12_way_280 rfl rfl ?_
                        refine s_geto (pc := 281) F_12 37 rfl o126 dX12_way_281 kf_X12_83 ?_
                        refine s_rvB (fun r153 => ?_)
                        refine s_iload (pc := 284) dX12_way_284 rfl ?_
                        refine s_grd (fun o154 => ?_)
                        refine s_grd (fun i155 => ?_)
                        refine s_zald (pc := 286) o154 i155 dX12_way_286 ?_
                        refine s_join x56 (fun s157 : Int32 => x56) 315 (fun s157 : Int32 => [some (.ref (gh (xG X) + a0)), none, none, some (.int p3), none, some (.int s130.1), some (.int s130.2), some (.int s157), some (.int s138.2), none]) (fun s157 : Int32 => []) (fun s157 hs158 => ?_) (fun j156 hj159 => ?_)
                        · show S0 X _ x56 315 [some (.ref (gh (xG X) + a0)), none, none, some (.int p3), none, some (.int s130.1), some (.int s130.2), some (.int s157), some (.int s138.2), none] [] _
                          refine s_iinc (pc := 315) dX12_way_315 rfl (v := s138.2 + 1) (congrArg (fun z : Int32 => s138.2 + z) kc_1) (nlt rfl) rfl (L' := [some (.ref (gh (xG X) + a0)), none, none, some (.int p3), none, some (.int s130.1), some (.int s130.2), some (.int s157), some (.int (s138.2 + 1)), none]) rfl ?_
                          refine s_bv (fun x160 : Int32 => [some (.ref (gh (xG X) + a0)), none, none, some (.int p3), none, some (.int s130.1), some (.int s130.2), some (.int s157), some (.int x160), none]) (fun x160 => ?_) rfl
                          refine s_goto (pc := 318) 253 dX12_way_318 rfl ?_
                          exact s_drop (hT141 (s157, x160) Le.rf) (And.intro rfl (And.intro rfl (And.intro rfl (And.intro rfl (And.intro rfl (And.intro rfl trivial))))))
                        · refine s_ifeq (pc := 287) 315 dX12_way_287 rfl ?_ ?_
                          · exact s_drop (hj159 s138.1 Le.rf) (And.intro rfl (And.intro rfl (And.intro rfl (And.intro rfl (And.intro rfl (And.intro rfl trivial))))))
                          · refine s_aload_n (pc := 290) 0 dX12_way_290 rfl rfl ?_
                            refine s_geto (pc := 291) F_12 35 rfl o126 dX12_way_291 kf_X12_77 ?_
                            refine s_rvB (fun r161 => ?_)
                            refine s_iload (pc := 294) dX12_way_294 rfl ?_
                            refine s_grd (fun o162 => ?_)
                            refine s_grd (fun i163 => ?_)
                            refine s_iald (pc := 296) o162 i163 dX12_way_296 ?_
                            refine s_iload (pc := 297) dX12_way_297 rfl ?_
                            refine s_iconst (pc := 299) 1 dX12_way_299 kc_1 ?_
                            refine s_iadd (pc := 300) dX12_way_300 ?_
                            refine s_icne (pc := 301) 315 dX12_way_301 rfl ?_ ?_
                            · exact s_drop (hj159 s138.1 Le.rf) (And.intro rfl (And.intro rfl (And.intro rfl (And.intro rfl (And.intro rfl (And.intro rfl trivial))))))
                            · refine s_iload (pc := 304) dX12_way_304 rfl ?_
                              refine s_iload (pc := 306) dX12_way_306 rfl ?_
                              refine s_icge (pc := 308) 315 dX12_way_308 rfl ?_ ?_
                              · exact s_drop (hj159 s138.1 Le.rf) (And.intro rfl (And.intro rfl (And.intro rfl (And.intro rfl (And.intro rfl (And.intro rfl trivial))))))
                              · refine s_iload (pc := 311) dX12_way_311 rfl ?_
                                refine s_istore (pc := 313) dX12_way_313 (nlt rfl) rfl (L' := [some (.ref (gh (xG X) + a0)), none, none, some (.int p3), none, some (.int s130.1), some (.int s130.2), some (.int x152), some (.int s138.2), some (.int x152)]) rfl ?_
                                exact s_drop (hj159 x152 Le.rf) (And.intro rfl (And.intro rfl (And.intro rfl (And.intro rfl (And.intro rfl (And.intro rfl trivial))))))
              · show S0 X _ s49.1 98 [some (.ref (gh (xG X) + a0)), some (.int p1), none, some (.int p3), none, some (.int s49.2), none, none, none, none] [] _
                have o55 := hs50.ok o47
                refine s_iload (pc := 98) dX12_way_98 rfl ?_
                refine s_iflt (pc := 100) 230 dX12_way_100 rfl ?_ ?_
                · exact s_drop (hR54 s49.1 hs50) (And.intro rfl (And.intro rfl (And.intro rfl trivial)))
                · refine s_iconst (pc := 103) 0 dX12_way_103 kc_0 ?_
                  refine s_istore (pc := 104) dX12_way_104 (nlt rfl) rfl (L' := [some (.ref (gh (xG X) + a0)), some (.int p1), none, some (.int p3), none, some (.int s49.2), some (.int 0), none, none, none]) rfl ?_
                  refine s_drop (L' := [some (.ref (gh (xG X) + a0)), some (.int p1), none, some (.int p3), none, some (.int s49.2), some (.int 0), none, none, none]) ?_ (And.intro rfl (And.intro rfl (And.intro rfl (And.intro rfl (And.intro rfl trivial)))))
                  refine s_loop1 s49.1 (fun s58 : Mem × Int32 => s58.1) (fun s58 : Mem × Int32 => [some (.ref (gh (xG X) + a0)), some (.int p1), none, some (.int p3), none, some (.int s49.2), some (.int s58.2), none, none, none]) (fun x65 : Mem => x65) 224 (fun x65 : Mem => [some (.ref (gh (xG X) + a0)), some (.int p1), none, some (.int p3), none, some (.int s49.2), none, none, none, none]) (fun x65 hx66 => ?_) (fun T60 R62 hT61 hR63 s58 hs59 => ?_) (s49.1, 0) Le.rf
                  · show S0 X _ x65 224 [some (.ref (gh (xG X) + a0)), some (.int p1), none, some (.int p3), none, some (.int s49.2), none, none, none, none] [] _
                    have o124 := hx66.ok o55
                    refine s_iinc (pc := 224) dX12_way_224 rfl (v := s49.2 + (-1)) (congrArg (fun z : Int32 => s49.2 + z) kc_m1) (nlt rfl) rfl (L' := [some (.ref (gh (xG X) + a0)), some (.int p1), none, some (.int p3), none, some (.int (s49.2 + (-1))), none, none, none, none]) rfl ?_
                    refine s_bv (fun x125 : Int32 => [some (.ref (gh (xG X) + a0)), some (.int p1), none, some (.int p3), none, some (.int x125), none, none, none, none]) (fun x125 => ?_) rfl
                    refine s_goto (pc := 227) 98 dX12_way_227 rfl ?_
                    exact s_drop (hT52 (x65, x125) (hs50.tr hx66)) (And.intro rfl (And.intro rfl (And.intro rfl (And.intro rfl trivial))))
                  · show S0 X _ s58.1 106 [some (.ref (gh (xG X) + a0)), some (.int p1), none, some (.int p3), none, some (.int s49.2), some (.int s58.2), none, none, none] [] _
                    have o64 := hs59.ok o55
                    refine s_iload (pc := 106) dX12_way_106 rfl ?_
                    refine s_sipush (pc := 108) 9331 dX12_way_108 ks_9331 ?_
                    refine s_icge (pc := 111) 224 dX12_way_111 rfl ?_ ?_
                    · exact s_drop (hR63 s58.1 hs59) (And.intro rfl (And.intro rfl (And.intro rfl (And.intro rfl trivial))))
                    · refine s_aload_n (pc := 114) 0 dX12_way_114 rfl rfl ?_
                      refine s_geto (pc := 115) F_12 35 rfl o64 dX12_way_115 kf_X12_77 ?_
                      refine s_rvB (fun r67 => ?_)
                      refine s_iload (pc := 118) dX12_way_118 rfl ?_
                      refine s_grd (fun o68 => ?_)
                      refine s_grd (fun i69 => ?_)
                      refine s_iald (pc := 120) o68 i69 dX12_way_120 ?_
                      refine s_iload (pc := 121) dX12_way_121 rfl ?_
                      refine s_join s58.1 (fun s71 : Mem => s71) 218 (fun s71 : Mem => [some (.ref (gh (xG X) + a0)), some (.int p1), none, some (.int p3), none, some (.int s49.2), some (.int s58.2), none, none, none]) (fun s71 : Mem => []) (fun s71 hs72 => ?_) (fun j70 hj73 => ?_)
                      · show S0 X _ s71 218 [some (.ref (gh (xG X) + a0)), some (.int p1), none, some (.int p3), none, some (.int s49.2), some (.int s58.2), none, none, none] [] _
                        have o74 := hs72.ok o64
                        refine s_iinc (pc := 218) dX12_way_218 rfl (v := s58.2 + 1) (congrArg (fun z : Int32 => s58.2 + z) kc_1) (nlt rfl) rfl (L' := [some (.ref (gh (xG X) + a0)), some (.int p1), none, some (.int p3), none, some (.int s49.2), some (.int (s58.2 + 1)), none, none, none]) rfl ?_
                        refine s_bv (fun x75 : Int32 => [some (.ref (gh (xG X) + a0)), some (.int p1), none, some (.int p3), none, some (.int s49.2), some (.int x75), none, none, none]) (fun x75 => ?_) rfl
                        refine s_goto (pc := 221) 106 dX12_way_221 rfl ?_
                        exact s_drop (hT61 (s71, x75) (hs59.tr hs72)) (And.intro rfl (And.intro rfl (And.intro rfl (And.intro rfl (And.intro rfl trivial)))))
                      · refine s_iceq (pc := 123) 129 dX12_way_123 rfl ?_ ?_
                        · refine s_iconst (pc := 129) 0 dX12_way_129 kc_0 ?_
                          refine s_istore (pc := 130) dX12_way_130 (nlt rfl) rfl (L' := [some (.ref (gh (xG X) + a0)), some (.int p1), none, some (.int p3), none, some (.int s49.2), some (.int s58.2), some (.int 0), none, none]) rfl ?_
                          refine s_drop (L' := [some (.ref (gh (xG X) + a0)), some (.int p1), none, some (.int p3), none, some (.int s49.2), some (.int s58.2), some (.int 0), none, none]) ?_ (And.intro rfl (And.intro rfl (And.intro rfl (And.intro rfl (And.intro rfl (And.intro rfl trivial))))))
                          refine s_loop1 s58.1 (fun s76 : Mem × Int32 => s76.1) (fun s76 : Mem × Int32 => [some (.ref (gh (xG X) + a0)), some (.int p1), none, some (.int p3), none, some (.int s49.2), some (.int s58.2), some (.int s76.2), none, none]) (fun x83 : Mem => x83) 218 (fun x83 : Mem => [some (.ref (gh (xG X) + a0)), some (.int p1), none, some (.int p3), none, some (.int s49.2), some (.int s58.2), none, none, none]) (fun x83 hx84 => ?_) (fun T78 R80 hT79 hR81 s76 hs77 => ?_) (s58.1, 0) Le.rf
                          · show S0 X _ x83 218 [some (.ref (gh (xG X) + a0)), some (.int p1), none, some (.int p3), none, some (.int s49.2), some (.int s58.2), none, none, none] [] _
                            have o123 := hx84.ok o64
                            exact s_drop (hj73 x83 hx84) (And.intro rfl (And.intro rfl (And.intro rfl (And.intro rfl (And.intro rfl trivial)))))
                          · show S0 X _ s76.1 132 [some (.ref (gh (xG X) + a0)), some (.int p1), none, some (.int p3), none, some (.int s49.2), some (.int s58.2), some (.int s76.2), none, none] [] _
                            have o82 := hs77.ok o64
                            refine s_iload (pc := 132) dX12_way_132 rfl ?_
                            refine s_aload_n (pc := 134) 0 dX12_way_134 rfl rfl ?_
                            refine s_geto (pc := 135) F_12 33 rfl o82 dX12_way_135 kf_X12_71 ?_
                            refine s_rvB (fun r85 => ?_)
                            refine s_iload (pc := 138) dX12_way_138 rfl ?_
                            refine s_grd (fun o86 => ?_)
                            refine s_grd (fun i87 => ?_)
                            refine s_iald (pc := 140) o86 i87 dX12_way_140 ?_
                            refine s_icge (pc := 141) 218 dX12_way_141 rfl ?_ ?_
                            · exact s_drop (hR81 s76.1 hs77) (And.intro rfl (And.intro rfl (And.intro rfl (And.intro rfl (And.intro rfl trivial)))))
                            · refine s_aload_n (pc := 144) 0 dX12_way_144 rfl rfl ?_
                              refine s_geto (pc := 145) F_12 37 rfl o82 dX12_way_145 kf_X12_83 ?_
                              refine s_rvB (fun r88 => ?_)
                              refine s_iload (pc := 148) dX12_way_148 rfl ?_
                              refine s_aload_n (pc := 150) 0 dX12_way_150 rfl rfl ?_
                              refine s_geto (pc := 151) F_12 37 rfl o82 dX12_way_151 kf_X12_83 ?_
                              refine s_rvB (fun r89 => ?_)
                              refine s_iload (pc := 154) dX12_way_154 rfl ?_
                              refine s_grd (fun o90 => ?_)
                              refine s_grd (fun i91 => ?_)
                              refine s_zald (pc := 156) o90 i91 dX12_way_156 ?_
                              refine s_join s76.1 (fun s93 : Int32 => s76.1) 211 (fun s93 : Int32 => [some (.ref (gh (xG X) + a0)), some (.int p1), none, some (.int p3), none, some (.int s49.2), some (.int s58.2), some (.int s76.2), none, none]) (fun s93 : Int32 => [.int s93, .int s58.2, .ref (gh (xG X) + r88)]) (fun s93 hs94 => ?_) (fun j92 hj95 => ?_)
                              · show S0 X _ s76.1 211 [some (.ref (gh (xG X) + a0)), some (.int p1), none, some (.int p3), none, some (.int s49.2), some (.int s58.2), some (.int s76.2), none, none] [.int s93, .int s58.2, .ref (gh (xG X) + r88)] _
                                refine s_grd (fun o96 => ?_)
                                refine s_grd (fun i97 => ?_)
                                refine s_zast (pc := 211) o96 i97 dX12_way_211 (fun M98 hM99 => ?_)
                                have h100 := le_wI hM99
                                have o101 := h100.ok o82
                                refine s_iinc (pc := 212) dX12_way_212 rfl (v := s76.2 + 1) (congrArg (fun z : Int32 => s76.2 + z) kc_1) (nlt rfl) rfl (L' := [some (.ref (gh (xG X) + a0)), some (.int p1), none, some (.int p3), none, some (.int s49.2), some (.int s58.2), some (.int (s76.2 + 1)), none, none]) rfl ?_
                                refine s_bv (fun x102 : Int32 => [some (.ref (gh (xG X) + a0)), some (.int p1), none, some (.int p3), none, some (.int s49.2), some (.int s58.2), some (.int x102), none, none]) (fun x102 => ?_) rfl
                                refine s_goto (pc := 215) 132 dX12_way_215 rfl ?_
                                exact s_drop (hT79 (M98, x102) (hs77.tr h100)) (And.intro rfl (And.intro rfl (And.intro rfl (And.intro rfl (And.intro rfl (And.intro rfl trivial))))))
                              · refine s_join s76.1 (fun s104 : Unit => s76.1) 206 (fun s104 : Unit => [some (.ref (gh (xG X) + a0)), some (.int p1), none, some (.int p3), none, some (.int s49.2), some (.int s58.2), some (.int s76.2), none, none]) (fun s104 : Unit => [.int s58.2, .ref (gh (xG X) + r88)]) (fun s104 hs105 => ?_) (fun j103 hj106 => ?_)
                                · show S0 X _ s76.1 206 [some (.ref (gh (xG X) + a0)), some (.int p1), none, some (.int p3), none, some (.int s49.2), some (.int s58.2), some (.int s76.2), none, none] [.int s58.2, .ref (gh (xG X) + r88)] _
                                  refine s_iconst (pc := 206) 1 dX12_way_206 kc_1 ?_
                                  refine s_goto (pc := 207) 211 dX12_way_207 rfl ?_
                                  exact s_drop (hj95 1 Le.rf) (And.intro rfl (And.intro rfl (And.intro rfl (And.intro rfl (And.intro rfl (And.intro rfl trivial))))))
                                · refine s_ifne (pc := 157) 206 dX12_way_157 rfl ?_ ?_
                                  · exact s_drop (hj106 () Le.rf) (And.intro rfl (And.intro rfl (And.intro rfl (And.intro rfl (And.intro rfl (And.intro rfl trivial))))))
                                  · refine s_aload_n (pc := 160) 0 dX12_way_160 rfl rfl ?_
                                    refine s_geto (pc := 161) F_12 37 rfl o82 dX12_way_161 kf_X12_83 ?_
                                    refine s_rvB (fun r107 => ?_)
                                    refine s_aload_n (pc := 164) 0 dX12_way_164 rfl rfl ?_
                                    refine s_geto (pc := 165) F_12 32 rfl o82 dX12_way_165 kf_X12_68 ?_
                                    refine s_rvB (fun r108 => ?_)
                                    refine s_bipush (pc := 168) 46 dX12_way_168 kb_46 ?_
                                    refine s_iload (pc := 170) dX12_way_170 rfl ?_
                                    refine s_imul (pc := 172) dX12_way_172 ?_
                                    refine s_iload (pc := 173) dX12_way_173 rfl ?_
                                    refine s_iadd (pc := 175) dX12_way_175 ?_
                                    refine s_grd (fun o109 => ?_)
                                    refine s_grd (fun i110 => ?_)
                                    refine s_iald (pc := 176) o109 i110 dX12_way_176 ?_
                                    refine s_grd (fun o111 => ?_)
                                    refine s_grd (fun i112 => ?_)
                                    refine s_zald (pc := 177) o111 i112 dX12_way_177 ?_
                                    refine s_join s76.1 (fun s114 : Unit => s76.1) 210 (fun s114 : Unit => [some (.ref (gh (xG X) + a0)), some (.int p1), none, some (.int p3), none, some (.int s49.2), some (.int s58.2), some (.int s76.2), none, none]) (fun s114 : Unit => [.int s58.2, .ref (gh (xG X) + r88)]) (fun s114 hs115 => ?_) (fun j113 hj116 => ?_)
                                    · show S0 X _ s76.1 210 [some (.ref (gh (xG X) + a0)), some (.int p1), none, some (.int p3), none, some (.int s49.2), some (.int s58.2), some (.int s76.2), none, none] [.int s58.2, .ref (gh (xG X) + r88)] _
                                      refine s_iconst (pc := 210) 0 dX12_way_210 kc_0 ?_
                                      exact s_drop (hj95 0 Le.rf) (And.intro rfl (And.intro rfl (And.intro rfl (And.intro rfl (And.intro rfl (And.intro rfl trivial))))))
                                    · refine s_ifeq (pc := 178) 210 dX12_way_178 rfl ?_ ?_
                                      · exact s_drop (hj116 () Le.rf) (And.intro rfl (And.intro rfl (And.intro rfl (And.intro rfl (And.intro rfl (And.intro rfl trivial))))))
                                      · refine s_aload_n (pc := 181) 0 dX12_way_181 rfl rfl ?_
                                        refine s_geto (pc := 182) F_12 35 rfl o82 dX12_way_182 kf_X12_77 ?_
                                        refine s_rvB (fun r117 => ?_)
                                        refine s_aload_n (pc := 185) 0 dX12_way_185 rfl rfl ?_
                                        refine s_geto (pc := 186) F_12 32 rfl o82 dX12_way_186 kf_X12_68 ?_
                                        refine s_rvB (fun r118 => ?_)
                                        refine s_bipush (pc := 189) 46 dX12_way_189 kb_46 ?_
                                        refine s_iload (pc := 191) dX12_way_191 rfl ?_
                                        refine s_imul (pc := 193) dX12_way_193 ?_
                                        refine s_iload (pc := 194) dX12_way_194 rfl ?_
                                        refine s_iadd (pc := 196) dX12_way_196 ?_
                                        refine s_grd (fun o119 => ?_)
                                        refine s_grd (fun i120 => ?_)
                                        refine s_iald (pc := 197) o119 i120 dX12_way_197 ?_
                                        refine s_grd (fun o121 => ?_)
                                        refine s_grd (fun i122 => ?_)
                                        refine s_iald (pc := 198) o121 i122 dX12_way_198 ?_
                                        refine s_iload (pc := 199) dX12_way_199 rfl ?_
                                        refine s_iconst (pc := 201) 1 dX12_way_201 kc_1 ?_
                                        refine s_iadd (pc := 202) dX12_way_202 ?_
                                        refine s_icne (pc := 203) 210 dX12_way_203 rfl ?_ ?_
                                        · exact s_drop (hj116 () Le.rf) (And.intro rfl (And.intro rfl (And.intro rfl (And.intro rfl (And.intro rfl (And.intro rfl trivial))))))
                                        · exact s_drop (hj106 () Le.rf) (And.intro rfl (And.intro rfl (And.intro rfl (And.intro rfl (And.intro rfl (And.intro rfl trivial))))))
                        · refine s_goto (pc := 126) 218 dX12_way_126 rfl ?_
                          exact s_drop (hj73 s58.1 Le.rf) (And.intro rfl (And.intro rfl (And.intro rfl (And.intro rfl (And.intro rfl trivial)))))
            · show S0 X _ s23.1 57 [some (.ref (gh (xG X) + a0)), some (.int p1), some (.int p2), some (.int p3), some (.int x22), some (.int s23.2), none, none, none, none] [] _
              have o29 := hs24.ok o15
              refine s_iload (pc := 57) dX12_way_57 rfl ?_
              refine s_sipush (pc := 59) 9331 dX12_way_59 ks_9331 ?_
              refine s_icge (pc := 62) 92 dX12_way_62 rfl ?_ ?_
              · exact s_drop (hR28 s23.1 hs24) (And.intro rfl (And.intro rfl (And.intro rfl (And.intro rfl trivial))))
              · refine s_aload_n (pc := 65) 0 dX12_way_65 rfl rfl ?_
                refine s_geto (pc := 66) F_12 37 rfl o29 dX12_way_66 kf_X12_83 ?_
                refine s_rvB (fun r32 => ?_)
                refine s_iload (pc := 69) dX12_way_69 rfl ?_
                refine s_iload (pc := 71) dX12_way_71 rfl ?_
                refine s_iload_n (pc := 73) 2 dX12_way_73 rfl rfl ?_
                refine s_bind (fun q33 hq34 => ?_)
                have hC35 := t_X12_placeOf (l := xl X) (G := xG X) (M := s23.1) hq34
                refine s_callS (pc := 74) (As := [.int p2]) (st := [.int s23.2, .int s23.2, .ref (gh (xG X) + r32)]) cl_X12_placeOf wt_X12_placeOf km_X12_362 rfl rfl (nle rfl) (nle rfl) (nle rfl) dX12_way_74 hC35 ?_
                show S0 X _ s23.1 77 [some (.ref (gh (xG X) + a0)), some (.int p1), some (.int p2), some (.int p3), some (.int x22), some (.int s23.2), none, none, none, none] [.int q33, .int s23.2, .int s23.2, .ref (gh (xG X) + r32)] _
                refine s_join s23.1 (fun s37 : Int32 => s23.1) 85 (fun s37 : Int32 => [some (.ref (gh (xG X) + a0)), some (.int p1), some (.int p2), some (.int p3), some (.int x22), some (.int s23.2), none, none, none, none]) (fun s37 : Int32 => [.int s37, .int s23.2, .ref (gh (xG X) + r32)]) (fun s37 hs38 => ?_) (fun j36 hj39 => ?_)
                · show S0 X _ s23.1 85 [some (.ref (gh (xG X) + a0)), some (.int p1), some (.int p2), some (.int p3), some (.int x22), some (.int s23.2), none, none, none, none] [.int s37, .int s23.2, .ref (gh (xG X) + r32)] _
                  refine s_grd (fun o40 => ?_)
                  refine s_grd (fun i41 => ?_)
                  refine s_zast (pc := 85) o40 i41 dX12_way_85 (fun M42 hM43 => ?_)
                  have h44 := le_wI hM43
                  have o45 := h44.ok o29
                  refine s_iinc (pc := 86) dX12_way_86 rfl (v := s23.2 + 1) (congrArg (fun z : Int32 => s23.2 + z) kc_1) (nlt rfl) rfl (L' := [some (.ref (gh (xG X) + a0)), some (.int p1), some (.int p2), some (.int p3), some (.int x22), some (.int (s23.2 + 1)), none, none, none, none]) rfl ?_
                  refine s_bv (fun x46 : Int32 => [some (.ref (gh (xG X) + a0)), some (.int p1), some (.int p2), some (.int p3), some (.int x22), some (.int x46), none, none, none, none]) (fun x46 => ?_) rfl
                  refine s_goto (pc := 89) 57 dX12_way_89 rfl ?_
                  exact s_drop (hT26 (M42, x46) (hs24.tr h44)) (And.intro rfl (And.intro rfl (And.intro rfl (And.intro rfl (And.intro rfl (And.intro rfl trivial))))))
                · refine s_icne (pc := 77) 84 dX12_way_77 rfl ?_ ?_
                  · refine s_iconst (pc := 84) 0 dX12_way_84 kc_0 ?_
                    exact s_drop (hj39 0 Le.rf) (And.intro rfl (And.intro rfl (And.intro rfl (And.intro rfl (And.intro rfl (And.intro rfl trivial))))))
                  · refine s_iconst (pc := 80) 1 dX12_way_80 kc_1 ?_
                    refine s_goto (pc := 81) 85 dX12_way_81 rfl ?_
                    exact s_drop (hj39 1 Le.rf) (And.intro rfl (And.intro rfl (And.intro rfl (And.intro rfl (And.intro rfl (And.intro rfl trivial))))))
          · refine s_iconst (pc := 52) (-1) dX12_way_52 kc_m1 ?_
            exact s_iret rfl dX12_way_53
      · refine s_iconst (pc := 18) (-1) dX12_way_18 kc_m1 ?_
        exact s_iret rfl dX12_way_19
