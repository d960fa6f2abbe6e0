set_option maxRecDepth 100000 in
set_option maxHeartbeats 8000000 in
noncomputable def f_X12_sets (M : Mem) (a0 : Nat) (p1 : Int32) (p2 : Int32) (p3 : Int32) (p4 : Int32) : Option Mem :=
  grd (okO M 12 a0) (Option.bind (mR M a0 30) (fun r2 => grd (okO M 14 r2) (grd (vp_in 0 (mL M r2)) (bv (wI M r2 (0 : Int32).toNatClampNeg p2) (fun M5 => Option.bind (mR M5 a0 30) (fun r9 => grd (okO M5 14 r9) (grd (vp_in 1 (mL M5 r9)) (bv (wI M5 r9 (1 : Int32).toNatClampNeg (mI M5 a0 8)) (fun M12 => Option.bind (mR M12 a0 30) (fun r16 => grd (okO M12 14 r16) (grd (vp_in 2 (mL M12 r16)) (bv (wI M12 r16 (2 : Int32).toNatClampNeg p3) (fun M19 => Option.bind (mR M19 a0 30) (fun r23 => Option.bind (f_X12_longOf p1) (fun q24 => grd (okO M19 14 r23) (grd (vp_in 3 (mL M19 r23)) (bv (wI M19 r23 (3 : Int32).toNatClampNeg q24) (fun M29 => Option.bind (mR M29 a0 30) (fun r33 => Option.bind (f_X12_has a0 p1 (mI M29 a0 8)) (fun q34 => grd (okO M29 14 r33) (grd (vp_in 4 (mL M29 r33)) (bv (wI M29 r33 (4 : Int32).toNatClampNeg q34) (fun M39 => Option.bind (mR M39 a0 30) (fun r43 => Option.bind (mR M39 a0 3) (fun r44 => grd (okO M39 14 r44) (grd (vp_in (0 + (mI M39 a0 8)) (mL M39 r44)) (grd (okO M39 14 r43) (grd (vp_in 5 (mL M39 r43)) (bv (wI M39 r43 (5 : Int32).toNatClampNeg (mI M39 r44 (0 + (mI M39 a0 8)).toNatClampNeg)) (fun M49 => Option.bind (mR M49 a0 30) (fun r53 => grd (okO M49 14 r53) (grd (vp_in 6 (mL M49 r53)) (bv (wI M49 r53 (6 : Int32).toNatClampNeg p4) (fun M56 => Option.bind (mR M56 a0 30) (fun r60 => Option.bind (mR M56 a0 3) (fun r61 => grd (okO M56 14 r61) (grd (vp_in 55 (mL M56 r61)) (grd (okO M56 14 r60) (grd (vp_in 7 (mL M56 r60)) (bv (wI M56 r60 (7 : Int32).toNatClampNeg (mI M56 r61 (55 : Int32).toNatClampNeg)) (fun M66 => some M66)))))))))))))))))))))))))))))))))))))))))
abbrev Y_X12_sets : Sta := (RX12, "sets", cX12_sets, 5, none, 2)
set_option maxRecDepth 100000 in
set_option maxHeartbeats 8000000 in
theorem t_X12_sets {l : Launch} {G : Gh} {M : Mem} {a0 : Nat} {p1 : Int32} {p2 : Int32} {p3 : Int32} {p4 : Int32} {q : Mem} (h : f_X12_sets M a0 p1 p2 p3 p4 = some q) : Ctr l G yX12_sets Y_X12_sets M [.ref (gh G + a0), .int p1, .int p2, .int p3, .int p4] q (none) := by
  refine Ctr.of (Y := Y_X12_sets) (L := [some (.ref (gh G + a0)), some (.int p1), some (.int p2), some (.int p3), some (.int p4)]) (t := Option.bind (f_X12_sets M a0 p1 p2 p3 p4) (fun q => some (q, (none : Option Value)))) (by decide) rfl rfl (nle rfl) (Lof_in 0 _ rfl) (fun X hG hl => ?_) (by rw [h]; rfl)
  subst hG
  subst hl
  unfold f_X12_sets
  refine s_aload_n (pc := 0) 0 dX12_sets_0 rfl rfl ?_
  refine s_grd (fun o1 => ?_)
  refine s_geto (pc := 1) F_12 30 rfl o1 dX12_sets_1 kf_X12_61 ?_
  refine s_rvB (fun r2 => ?_)
  refine s_iconst (pc := 4) 0 dX12_sets_4 kc_0 ?_
  refine s_iload_n (pc := 5) 2 dX12_sets_5 rfl rfl ?_
  refine s_grd (fun o3 => ?_)
  refine s_grd (fun i4 => ?_)
  refine s_iast (pc := 6) o3 i4 dX12_sets_6 (fun M5 hM6 => ?_)
  have h7 := le_wI hM6
  have o8 := h7.ok o1
  refine s_aload_n (pc := 7) 0 dX12_sets_7 rfl rfl ?_
  refine s_geto (pc := 8) F_12 30 rfl o8 dX12_sets_8 kf_X12_61 ?_
  refine s_rvB (fun r9 => ?_)
  refine s_iconst (pc := 11) 1 dX12_sets_11 kc_1 ?_
  refine s_aload_n (pc := 12) 0 dX12_sets_12 rfl rfl ?_
  refine s_geti (pc := 13) F_12 8 rfl o8 dX12_sets_13 kf_X12_149 ?_
  refine s_grd (fun o10 => ?_)
  refine s_grd (fun i11 => ?_)
  refine s_iast (pc := 16) o10 i11 dX12_sets_16 (fun M12 hM13 => ?_)
  have h14 := le_wI hM13
  have o15 := h14.ok o8
  refine s_aload_n (pc := 17) 0 dX12_sets_17 rfl rfl ?_
  refine s_geto (pc := 18) F_12 30 rfl o15 dX12_sets_18 kf_X12_61 ?_
  refine s_rvB (fun r16 => ?_)
  refine s_iconst (pc := 21) 2 dX12_sets_21 kc_2 ?_
  refine s_iload_n (pc := 22) 3 dX12_sets_22 rfl rfl ?_
  refine s_grd (fun o17 => ?_)
  refine s_grd (fun i18 => ?_)
  refine s_iast (pc := 23) o17 i18 dX12_sets_23 (fun M19 hM20 => ?_)
  have h21 := le_wI hM20
  have o22 := h21.ok o15
  refine s_aload_n (pc := 24) 0 dX12_sets_24 rfl rfl ?_
  refine s_geto (pc := 25) F_12 30 rfl o22 dX12_sets_25 kf_X12_61 ?_
  refine s_rvB (fun r23 => ?_)
  refine s_iconst (pc := 28) 3 dX12_sets_28 kc_3 ?_
  refine s_iload_n (pc := 29) 1 dX12_sets_29 rfl rfl ?_
  refine s_bind (fun q24 hq25 => ?_)
  have hC26 := t_X12_longOf (l := xl X) (G := xG X) (M := M19) hq25
  refine s_callS (pc := 30) (As := [.int p1]) (st := [.int 3, .ref (gh (xG X) + r23)]) cl_X12_longOf wt_X12_longOf km_X12_156 rfl rfl (nle rfl) (nle rfl) (nle rfl) dX12_sets_30 hC26 ?_
  show S0 X _ M19 33 [some (.ref (gh (xG X) + a0)), some (.int p1), some (.int p2), some (.int p3), some (.int p4)] [.int q24, .int 3, .ref (gh (xG X) + r23)] _
  refine s_grd (fun o27 => ?_)
  refine s_grd (fun i28 => ?_)
  refine s_iast (pc := 33) o27 i28 dX12_sets_33 (fun M29 hM30 => ?_)
  have h31 := le_wI hM30
  have o32 := h31.ok o22
  refine s_aload_n (pc := 34) 0 dX12_sets_34 rfl rfl ?_
  refine s_geto (pc := 35) F_12 30 rfl o32 dX12_sets_35 kf_X12_61 ?_
  refine s_rvB (fun r33 => ?_)
  refine s_iconst (pc := 38) 4 dX12_sets_38 kc_4 ?_
  refine s_aload_n (pc := 39) 0 dX12_sets_39 rfl rfl ?_
  refine s_iload_n (pc := 40) 1 dX12_sets_40 rfl rfl ?_
  refine s_aload_n (pc := 41) 0 dX12_sets_41 rfl rfl ?_
  refine s_geti (pc := 42) F_12 8 rfl o32 dX12_sets_42 kf_X12_149 ?_
  refine s_bind (fun q34 hq35 => ?_)
  have hC36 := t_X12_has (l := xl X) (G := xG X) (M := M29) hq35
  refine s_callV (pc := 45) (As := [.int p1, .int (mI M29 a0 8)]) (st := [.int 4, .ref (gh (xG X) + r33)]) (nlt rfl) (q := (RX12, TX12, 59)) rfl rfl o32 cl_X12_has wi_X12_has wl_X12_has km_X12_159 rfl rfl (nle rfl) (nle rfl) (nle rfl) dX12_sets_45 hC36 ?_
  show S0 X _ M29 48 [some (.ref (gh (xG X) + a0)), some (.int p1), some (.int p2), some (.int p3), some (.int p4)] [.int q34, .int 4, .ref (gh (xG X) + r33)] _
  refine s_grd (fun o37 => ?_)
  refine s_grd (fun i38 => ?_)
  refine s_iast (pc := 48) o37 i38 dX12_sets_48 (fun M39 hM40 => ?_)
  have h41 := le_wI hM40
  have o42 := h41.ok o32
  refine s_aload_n (pc := 49) 0 dX12_sets_49 rfl rfl ?_
  refine s_geto (pc := 50) F_12 30 rfl o42 dX12_sets_50 kf_X12_61 ?_
  refine s_rvB (fun r43 => ?_)
  refine s_iconst (pc := 53) 5 dX12_sets_53 kc_5 ?_
  refine s_aload_n (pc := 54) 0 dX12_sets_54 rfl rfl ?_
  refine s_geto (pc := 55) F_12 3 rfl o42 dX12_sets_55 kf_X12_20 ?_
  refine s_rvB (fun r44 => ?_)
  refine s_iconst (pc := 58) 0 dX12_sets_58 kc_0 ?_
  refine s_aload_n (pc := 59) 0 dX12_sets_59 rfl rfl ?_
  refine s_geti (pc := 60) F_12 8 rfl o42 dX12_sets_60 kf_X12_149 ?_
  refine s_iadd (pc := 63) dX12_sets_63 ?_
  refine s_grd (fun o45 => ?_)
  refine s_grd (fun i46 => ?_)
  refine s_iald (pc := 64) o45 i46 dX12_sets_64 ?_
  refine s_grd (fun o47 => ?_)
  refine s_grd (fun i48 => ?_)
  refine s_iast (pc := 65) o47 i48 dX12_sets_65 (fun M49 hM50 => ?_)
  have h51 := le_wI hM50
  have o52 := h51.ok o42
  refine s_aload_n (pc := 66) 0 dX12_sets_66 rfl rfl ?_
  refine s_geto (pc := 67) F_12 30 rfl o52 dX12_sets_67 kf_X12_61 ?_
  refine s_rvB (fun r53 => ?_)
  refine s_bipush (pc := 70) 6 dX12_sets_70 kb_6 ?_
  refine s_iload (pc := 72) dX12_sets_72 rfl ?_
  refine s_grd (fun o54 => ?_)
  refine s_grd (fun i55 => ?_)
  refine s_iast (pc := 74) o54 i55 dX12_sets_74 (fun M56 hM57 => ?_)
  have h58 := le_wI hM57
  have o59 := h58.ok o52
  refine s_aload_n (pc := 75) 0 dX12_sets_75 rfl rfl ?_
  refine s_geto (pc := 76) F_12 30 rfl o59 dX12_sets_76 kf_X12_61 ?_
  refine s_rvB (fun r60 => ?_)
  refine s_bipush (pc := 79) 7 dX12_sets_79 kb_7 ?_
  refine s_aload_n (pc := 81) 0 dX12_sets_81 rfl rfl ?_
  refine s_geto (pc := 82) F_12 3 rfl o59 dX12_sets_82 kf_X12_20 ?_
  refine s_rvB (fun r61 => ?_)
  refine s_bipush (pc := 85) 55 dX12_sets_85 kb_55 ?_
  refine s_grd (fun o62 => ?_)
  refine s_grd (fun i63 => ?_)
  refine s_iald (pc := 87) o62 i63 dX12_sets_87 ?_
  refine s_grd (fun o64 => ?_)
  refine s_grd (fun i65 => ?_)
  refine s_iast (pc := 88) o64 i65 dX12_sets_88 (fun M66 hM67 => ?_)
  have h68 := le_wI hM67
  have o69 := h68.ok o59
  exact s_vret rfl dX12_sets_89
set_option maxRecDepth 100000 in
set_option maxHeartbeats 8000000 in
noncomputable def f_X12_splits (M : Mem) (a0 : Nat) (p1 : Int32) : Option Mem :=
  grd (okO M 12 a0) (bv (wI M a0 22 0) (fun M2 => Option.bind (loopO (σ := Mem × Int32) (ρ := Mem) (fun s6 => if p1 ≤ s6.2 then (some (.inr s6.1)) else (Option.bind (mR s6.1 a0 15) (fun r15 => grd (okO s6.1 13 r15) (grd (vp_in s6.2 (mL s6.1 r15)) (bv (mI s6.1 r15 s6.2.toNatClampNeg : Int32) (fun x18 => if x18 = 32 then (bv (s6.2 + 1 : Int32) (fun x139 => some (.inl (s6.1, x139)))) else (bv (s6.2 + 1 : Int32) (fun x19 => Option.bind (f_X12_isSmall x18) (fun q20 => bv (fun (s24 : Int32) => Option.bind (f_X12_isDigit x18) (fun q27 => bv (fun (s31 : Int32) => Option.bind (mR s6.1 a0 21) (fun r34 => grd (okO s6.1 14 r34) (grd (vp_in (mI s6.1 a0 22) (mL s6.1 r34)) (bv (wI s6.1 r34 (mI s6.1 a0 22).toNatClampNeg s6.2) (fun M37 => Option.bind (mR M37 a0 20) (fun r41 => grd (okO M37 14 r41) (grd (vp_in (mI M37 a0 22) (mL M37 r41)) (bv (wI M37 r41 (mI M37 a0 22).toNatClampNeg 0) (fun M44 => Option.bind (mR M44 a0 19) (fun r48 => Option.bind (f_X12_isSmall x18) (fun q49 => bv (fun (s53 : Int32) => grd (okO M44 14 r48) (grd (vp_in (mI M44 a0 22) (mL M44 r48)) (bv (wI M44 r48 (mI M44 a0 22).toNatClampNeg s53) (fun M58 => Option.bind (loopO (σ := Mem × Int32) (ρ := Mem) (fun s62 => if s31 ≤ s62.2 then (some (.inr s62.1)) else (Option.bind (f_X12_isDigit x18) (fun q71 => if q71 = 0 then (some (.inr s62.1)) else (Option.bind (mR s62.1 a0 20) (fun r74 => Option.bind (mR s62.1 a0 20) (fun r75 => grd (okO s62.1 14 r75) (grd (vp_in (mI s62.1 a0 22) (mL s62.1 r75)) (bv (fun (s79 : Int32) => grd (okO s62.1 14 r74) (grd (vp_in (mI s62.1 a0 22) (mL s62.1 r74)) (bv (wI s62.1 r74 (mI s62.1 a0 22).toNatClampNeg s79) (fun M84 => bv (s62.2 + 1 : Int32) (fun x88 => some (.inl (M84, x88))))))) (fun j78 => if (mI s62.1 r75 (mI s62.1 a0 22).toNatClampNeg) ≤ 1000000 then (Option.bind (mR s62.1 a0 20) (fun r89 => grd (okO s62.1 14 r89) (grd (vp_in (mI s62.1 a0 22) (mL s62.1 r89)) (Option.bind (mR s62.1 a0 15) (fun r92 => grd (okO s62.1 13 r92) (grd (vp_in s62.2 (mL s62.1 r92)) (j78 (((10 * (mI s62.1 r89 (mI s62.1 a0 22).toNatClampNeg)) + (mI s62.1 r92 s62.2.toNatClampNeg)) - 48)))))))) else (Option.bind (mR s62.1 a0 20) (fun r95 => grd (okO s62.1 14 r95) (grd (vp_in (mI s62.1 a0 22) (mL s62.1 r95)) (j78 (mI s62.1 r95 (mI s62.1 a0 22).toNatClampNeg)))))))))))))) (M58, s6.2)) (fun (x69 : Mem) => bv (wI x69 a0 22 ((mI x69 a0 22) + 1)) (fun M99 => some (.inl (M99, s31)))))))) (fun j52 => if q49 = 0 then (Option.bind (f_X12_isDigit x18) (fun q103 => if q103 = 0 then (j52 (100 + (x18 &&& 255))) else (j52 50))) else (Option.bind (f_X12_wordOf M44 a0 s6.2 s31) (fun q106 => j52 q106)))))))))))))) (fun j30 => if q27 = 0 then (j30 s24) else (Option.bind (loopO (σ := Int32) (ρ := Int32) (fun s109 => if p1 ≤ s109 then (some (.inr s109)) else (Option.bind (mR s6.1 a0 15) (fun r117 => grd (okO s6.1 13 r117) (grd (vp_in s109 (mL s6.1 r117)) (Option.bind (f_X12_isDigit (mI s6.1 r117 s109.toNatClampNeg)) (fun q120 => if q120 = 0 then (some (.inr s109)) else (bv (s109 + 1 : Int32) (fun x123 => some (.inl x123))))))))) s24) (fun (x115 : Int32) => j30 x115))))) (fun j23 => if q20 = 0 then (j23 x19) else (Option.bind (loopO (σ := Int32) (ρ := Int32) (fun s124 => if p1 ≤ s124 then (some (.inr s124)) else (Option.bind (mR s6.1 a0 15) (fun r132 => grd (okO s6.1 13 r132) (grd (vp_in s124 (mL s6.1 r132)) (Option.bind (f_X12_isSmall (mI s6.1 r132 s124.toNatClampNeg)) (fun q135 => if q135 = 0 then (some (.inr s124)) else (bv (s124 + 1 : Int32) (fun x138 => some (.inl x138))))))))) x19) (fun (x130 : Int32) => j23 x130)))))))))))) (M2, 0)) (fun (x13 : Mem) => Option.bind (mR x13 a0 21) (fun r141 => grd (okO x13 14 r141) (grd (vp_in (mI x13 a0 22) (mL x13 r141)) (bv (wI x13 r141 (mI x13 a0 22).toNatClampNeg p1) (fun M144 => Option.bind (mR M144 a0 19) (fun r148 => grd (okO M144 14 r148) (grd (vp_in (mI M144 a0 22) (mL M144 r148)) (bv (wI M144 r148 (mI M144 a0 22).toNatClampNeg 0) (fun M151 => Option.bind (mR M151 a0 20) (fun r155 => grd (okO M151 14 r155) (grd (vp_in (mI M151 a0 22) (mL M151 r155)) (bv (wI M151 r155 (mI M151 a0 22).toNatClampNeg 0) (fun M158 => some M158)))))))))))))))
abbrev Y_X12_splits : Sta := (RX12, "splits", cX12_splits, 6, none, 2)
set_option maxRecDepth 100000 in
set_option maxHeartbeats 8000000 in
theorem t_X12_splits {l : Launch} {G : Gh} {M : Mem} {a0 : Nat} {p1 : Int32} {q : Mem} (h : f_X12_splits M a0 p1 = some q) : Ctr l G yX12_splits Y_X12_splits M [.ref (gh G + a0), .int p1] q (none) := by
  refine Ctr.of (Y := Y_X12_splits) (L := [some (.ref (gh G + a0)), some (.int p1), none, none, none, none]) (t := Option.bind (f_X12_splits M a0 p1) (fun q => some (q, (none : Option Value)))) (by decide) rfl rfl (nle rfl) (Lof_in 4 _ rfl) (fun X hG hl => ?_) (by rw [h]; rfl)
  subst hG
  subst hl
  unfold f_X12_splits
  refine s_aload_n (pc := 0) 0 dX12_splits_0 rfl rfl ?_
  refine s_iconst (pc := 1) 0 dX12_splits_1 kc_0 ?_
  refine s_grd (fun o1 => ?_)
  refine s_puti (pc := 2) F_12 22 rfl o1 rfl rfl rfl dX12_splits_2 kf_X12_217 (fun M2 hM3 => ?_)
  have h4 := le_wI hM3
  have o5 := h4.ok o1
  refine s_iconst (pc := 5) 0 dX12_splits_5 kc_0 ?_
  refine s_istore_n (pc := 6) 2 dX12_splits_6 rfl (nlt rfl) rfl (L' := [some (.ref (gh (xG X) + a0)), some (.int p1), some (.int 0), none, none, none]) rfl ?_
  refine s_drop (L' := [some (.ref (gh (xG X) + a0)), some (.int p1), some (.int 0), none, none, none]) ?_ (And.intro rfl (And.intro rfl (And.intro rfl trivial)))
  refine s_loop1 M2 (fun s6 : Mem × Int32 => s6.1) (fun s6 : Mem × Int32 => [some (.ref (gh (xG X) + a0)), some (.int p1), some (.int s6.2), none, none, none]) (fun x13 : Mem => x13) 263 (fun x13 : Mem => [some (.ref (gh (xG X) + a0)), some (.int p1), none, none, none, none]) (fun x13 hx14 => ?_) (fun T8 R10 hT9 hR11 s6 hs7 => ?_) (M2, 0) Le.rf
  · show S0 X _ x13 263 [some (.ref (gh (xG X) + a0)), some (.int p1), none, none, none, none] [] _
    have o140 := hx14.ok o5
    refine s_aload_n (pc := 263) 0 dX12_splits_263 rfl rfl ?_
    refine s_geto (pc := 264) F_12 21 rfl o140 dX12_splits_264 kf_X12_58 ?_
    refine s_rvB (fun r141 => ?_)
    refine s_aload_n (pc := 267) 0 dX12_splits_267 rfl rfl ?_
    refine s_geti (pc := 268) F_12 22 rfl o140 dX12_splits_268 kf_X12_217 ?_
    refine s_iload_n (pc := 271) 1 dX12_splits_271 rfl rfl ?_
    refine s_grd (fun o142 => ?_)
    refine s_grd (fun i143 => ?_)
    refine s_iast (pc := 272) o142 i143 dX12_splits_272 (fun M144 hM145 => ?_)
    have h146 := le_wI hM145
    have o147 := h146.ok o140
    refine s_aload_n (pc := 273) 0 dX12_splits_273 rfl rfl ?_
    refine s_geto (pc := 274) F_12 19 rfl o147 dX12_splits_274 kf_X12_52 ?_
    refine s_rvB (fun r148 => ?_)
    refine s_aload_n (pc := 277) 0 dX12_splits_277 rfl rfl ?_
    refine s_geti (pc := 278) F_12 22 rfl o147 dX12_splits_278 kf_X12_217 ?_
    refine s_iconst (pc := 281) 0 dX12_splits_281 kc_0 ?_
    refine s_grd (fun o149 => ?_)
    refine s_grd (fun i150 => ?_)
    refine s_iast (pc := 282) o149 i150 dX12_splits_282 (fun M151 hM152 => ?_)
    have h153 := le_wI hM152
    have o154 := h153.ok o147
    refine s_aload_n (pc := 283) 0 dX12_splits_283 rfl rfl ?_
    refine s_geto (pc := 284) F_12 20 rfl o154 dX12_splits_284 kf_X12_55 ?_
    refine s_rvB (fun r155 => ?_)
    refine s_aload_n (pc := 287) 0 dX12_splits_287 rfl rfl ?_
    refine s_geti (pc := 288) F_12 22 rfl o154 dX12_splits_288 kf_X12_217 ?_
    refine s_iconst (pc := 291) 0 dX12_splits_291 kc_0 ?_
    refine s_grd (fun o156 => ?_)
    refine s_grd (fun i157 => ?_)
    refine s_iast (pc := 292) o156 i157 dX12_splits_292 (fun M158 hM159 => ?_)
    have h160 := le_wI hM159
    have o161 := h160.ok o154
    exact s_vret rfl dX12_splits_293
  · show S0 X _ s6.1 7 [some (.ref (gh (xG X) + a0)), some (.int p1), some (.int s6.2), none, none, none] [] _
    have o12 := hs7.ok o5
    refine s_iload_n (pc := 7) 2 dX12_splits_7 rfl rfl ?_
    refine s_iload_n (pc := 8) 1 dX12_splits_8 rfl rfl ?_
    refine s_icge (pc := 9) 263 dX12_splits_9 rfl ?_ ?_
    · exact s_drop (hR11 s6.1 hs7) (And.intro rfl (And.intro rfl trivial))
    · refine s_aload_n (pc := 12) 0 dX12_splits_12 rfl rfl ?_
      refine s_geto (pc := 13) F_12 15 rfl o12 dX12_splits_13 kf_X12_43 ?_
      refine s_rvB (fun r15 => ?_)
      refine s_iload_n (pc := 16) 2 dX12_splits_16 rfl rfl ?_
      refine s_grd (fun o16 => ?_)
      refine s_grd (fun i17 => ?_)
      refine s_bald (pc := 17) o16 i17 dX12_splits_17 ?_
      refine s_istore_n (pc := 18) 3 dX12_splits_18 rfl (nlt rfl) rfl (L' := [some (.ref (gh (xG X) + a0)), some (.int p1), some (.int s6.2), some (.int (mI s6.1 r15 s6.2.toNatClampNeg)), none, none]) rfl ?_
      refine s_bv (fun x18 : Int32 => [some (.ref (gh (xG X) + a0)), some (.int p1), some (.int s6.2), some (.int x18), none, none]) (fun x18 => ?_) rfl
      refine s_iload_n (pc := 19) 3 dX12_splits_19 rfl rfl ?_
      refine s_bipush (pc := 20) 32 dX12_splits_20 kb_32 ?_
      refine s_icne (pc := 22) 31 dX12_splits_22 rfl ?_ ?_
      · refine s_iload_n (pc := 31) 2 dX12_splits_31 rfl rfl ?_
        refine s_iconst (pc := 32) 1 dX12_splits_32 kc_1 ?_
        refine s_iadd (pc := 33) dX12_splits_33 ?_
        refine s_istore (pc := 34) dX12_splits_34 (nlt rfl) rfl (L' := [some (.ref (gh (xG X) + a0)), some (.int p1), some (.int s6.2), some (.int x18), some (.int (s6.2 + 1)), none]) rfl ?_
        refine s_bv (fun x19 : Int32 => [some (.ref (gh (xG X) + a0)), some (.int p1), some (.int s6.2), some (.int x18), some (.int x19), none]) (fun x19 => ?_) rfl
        refine s_iload_n (pc := 36) 3 dX12_splits_36 rfl rfl ?_
        refine s_bind (fun q20 hq21 => ?_)
        have hC22 := t_X12_isSmall (l := xl X) (G := xG X) (M := s6.1) hq21
        refine s_callS (pc := 37) (As := [.int x18]) (st := []) cl_X12_isSmall wt_X12_isSmall km_X12_220 rfl rfl (nle rfl) (nle rfl) (nle rfl) dX12_splits_37 hC22 ?_
        show S0 X _ s6.1 40 [some (.ref (gh (xG X) + a0)), some (.int p1), some (.int s6.2), some (.int x18), some (.int x19), none] [.int q20] _
        refine s_join s6.1 (fun s24 : Int32 => s6.1) 68 (fun s24 : Int32 => [some (.ref (gh (xG X) + a0)), some (.int p1), some (.int s6.2), some (.int x18), some (.int s24), none]) (fun s24 : Int32 => []) (fun s24 hs25 => ?_) (fun j23 hj26 => ?_)
        · show S0 X _ s6.1 68 [some (.ref (gh (xG X) + a0)), some (.int p1), some (.int s6.2), some (.int x18), some (.int s24), none] [] _
          refine s_iload_n (pc := 68) 3 dX12_splits_68 rfl rfl ?_
          refine s_bind (fun q27 hq28 => ?_)
          have hC29 := t_X12_isDigit (l := xl X) (G := xG X) (M := s6.1) hq28
          refine s_callS (pc := 69) (As := [.int x18]) (st := []) cl_X12_isDigit wt_X12_isDigit km_X12_223 rfl rfl (nle rfl) (nle rfl) (nle rfl) dX12_splits_69 hC29 ?_
          show S0 X _ s6.1 72 [some (.ref (gh (xG X) + a0)), some (.int p1), some (.int s6.2), some (.int x18), some (.int s24), none] [.int q27] _
          refine s_join s6.1 (fun s31 : Int32 => s6.1) 100 (fun s31 : Int32 => [some (.ref (gh (xG X) + a0)), some (.int p1), some (.int s6.2), some (.int x18), some (.int s31), none]) (fun s31 : Int32 => []) (fun s31 hs32 => ?_) (fun j30 hj33 => ?_)
          · show S0 X _ s6.1 100 [some (.ref (gh (xG X) + a0)), some (.int p1), some (.int s6.2), some (.int x18), some (.int s31), none] [] _
            refine s_aload_n (pc := 100) 0 dX12_splits_100 rfl rfl ?_
            refine s_geto (pc := 101) F_12 21 rfl o12 dX12_splits_101 kf_X12_58 ?_
            refine s_rvB (fun r34 => ?_)
            refine s_aload_n (pc := 104) 0 dX12_splits_104 rfl rfl ?_
            refine s_geti (pc := 105) F_12 22 rfl o12 dX12_splits_105 kf_X12_217 ?_
            refine s_iload_n (pc := 108) 2 dX12_splits_108 rfl rfl ?_
            refine s_grd (fun o35 => ?_)
            refine s_grd (fun i36 => ?_)
            refine s_iast (pc := 109) o35 i36 dX12_splits_109 (fun M37 hM38 => ?_)
            have h39 := le_wI hM38
            have o40 := h39.ok o12
            refine s_aload_n (pc := 110) 0 dX12_splits_110 rfl rfl ?_
            refine s_geto (pc := 111) F_12 20 rfl o40 dX12_splits_111 kf_X12_55 ?_
            refine s_rvB (fun r41 => ?_)
            refine s_aload_n (pc := 114) 0 dX12_splits_114 rfl rfl ?_
            refine s_geti (pc := 115) F_12 22 rfl o40 dX12_splits_115 kf_X12_217 ?_
            refine s_iconst (pc := 118) 0 dX12_splits_118 kc_0 ?_
            refine s_grd (fun o42 => ?_)
            refine s_grd (fun i43 => ?_)
            refine s_iast (pc := 119) o42 i43 dX12_splits_119 (fun M44 hM45 => ?_)
            have h46 := le_wI hM45
            have o47 := h46.ok o40
            refine s_aload_n (pc := 120) 0 dX12_splits_120 rfl rfl ?_
            refine s_geto (pc := 121) F_12 19 rfl o47 dX12_splits_121 kf_X12_52 ?_
            refine s_rvB (fun r48 => ?_)
            refine s_aload_n (pc := 124) 0 dX12_splits_124 rfl rfl ?_
            refine s_geti (pc := 125) F_12 22 rfl o47 dX12_splits_125 kf_X12_217 ?_
            refine s_iload_n (pc := 128) 3 dX12_splits_128 rfl rfl ?_
            refine s_bind (fun q49 hq50 => ?_)
            have hC51 := t_X12_isSmall (l := xl X) (G := xG X) (M := M44) hq50
            refine s_callS (pc := 129) (As := [.int x18]) (st := [.int (mI M44 a0 22), .ref (gh (xG X) + r48)]) cl_X12_isSmall wt_X12_isSmall km_X12_220 rfl rfl (nle rfl) (nle rfl) (nle rfl) dX12_splits_129 hC51 ?_
            show S0 X _ M44 132 [some (.ref (gh (xG X) + a0)), some (.int p1), some (.int s6.2), some (.int x18), some (.int s31), none] [.int q49, .int (mI M44 a0 22), .ref (gh (xG X) + r48)] _
            refine s_join M44 (fun s53 : Int32 => M44) 165 (fun s53 : Int32 => [some (.ref (gh (xG X) + a0)), some (.int p1), some (.int s6.2), some (.int x18), some (.int s31), none]) (fun s53 : Int32 => [.int s53, .int (mI M44 a0 22), .ref (gh (xG X) + r48)]) (fun s53 hs54 => ?_) (fun j52 hj55 => ?_)
            · show S0 X _ M44 165 [some (.ref (gh (xG X) + a0)), some (.int p1), some (.int s6.2), some (.int x18), some (.int s31), none] [.int s53, .int (mI M44 a0 22), .ref (gh (xG X) + r48)] _
              refine s_grd (fun o56 => ?_)
              refine s_grd (fun i57 => ?_)
              refine s_iast (pc := 165) o56 i57 dX12_splits_165 (fun M58 hM59 => ?_)
              have h60 := le_wI hM59
              have o61 := h60.ok o47
              refine s_iload_n (pc := 166) 2 dX12_splits_166 rfl rfl ?_
              refine s_istore (pc := 167) dX12_splits_167 (nlt rfl) rfl (L' := [some (.ref (gh (xG X) + a0)), some (.int p1), some (.int s6.2), some (.int x18), some (.int s31), some (.int s6.2)]) rfl ?_
              refine s_drop (L' := [some (.ref (gh (xG X) + a0)), some (.int p1), none, some (.int x18), some (.int s31), some (.int s6.2)]) ?_ (And.intro rfl (And.intro rfl (And.intro rfl (And.intro rfl (And.intro rfl trivial)))))
              refine s_loop1 M58 (fun s62 : Mem × Int32 => s62.1) (fun s62 : Mem × Int32 => [some (.ref (gh (xG X) + a0)), some (.int p1), none, some (.int x18), some (.int s31), some (.int s62.2)]) (fun x69 : Mem => x69) 247 (fun x69 : Mem => [some (.ref (gh (xG X) + a0)), some (.int p1), none, none, some (.int s31), none]) (fun x69 hx70 => ?_) (fun T64 R66 hT65 hR67 s62 hs63 => ?_) (M58, s6.2) Le.rf
              · show S0 X _ x69 247 [some (.ref (gh (xG X) + a0)), some (.int p1), none, none, some (.int s31), none] [] _
                have o98 := hx70.ok o61
                refine s_aload_n (pc := 247) 0 dX12_splits_247 rfl rfl ?_
                refine s_dup (pc := 248) dX12_splits_248 rfl ?_
                refine s_geti (pc := 249) F_12 22 rfl o98 dX12_splits_249 kf_X12_217 ?_
                refine s_iconst (pc := 252) 1 dX12_splits_252 kc_1 ?_
                refine s_iadd (pc := 253) dX12_splits_253 ?_
                refine s_puti (pc := 254) F_12 22 rfl o98 rfl rfl rfl dX12_splits_254 kf_X12_217 (fun M99 hM100 => ?_)
                have h101 := le_wI hM100
                have o102 := h101.ok o98
                refine s_iload (pc := 257) dX12_splits_257 rfl ?_
                refine s_istore_n (pc := 259) 2 dX12_splits_259 rfl (nlt rfl) rfl (L' := [some (.ref (gh (xG X) + a0)), some (.int p1), some (.int s31), none, some (.int s31), none]) rfl ?_
                refine s_goto (pc := 260) 7 dX12_splits_260 rfl ?_
                exact s_drop (hT9 (M99, s31) (hs7.tr (h39.tr (h46.tr (h60.tr (hx70.tr h101)))))) (And.intro rfl (And.intro rfl (And.intro rfl trivial)))
              · show S0 X _ s62.1 169 [some (.ref (gh (xG X) + a0)), some (.int p1), none, some (.int x18), some (.int s31), some (.int s62.2)] [] _
                have o68 := hs63.ok o61
                refine s_iload (pc := 169) dX12_splits_169 rfl ?_
                refine s_iload (pc := 171) dX12_splits_171 rfl ?_
                refine s_icge (pc := 173) 247 dX12_splits_173 rfl ?_ ?_
                · exact s_drop (hR67 s62.1 hs63) (And.intro rfl (And.intro rfl (And.intro rfl trivial)))
                · refine s_iload_n (pc := 176) 3 dX12_splits_176 rfl rfl ?_
                  refine s_bind (fun q71 hq72 => ?_)
                  have hC73 := t_X12_isDigit (l := xl X) (G := xG X) (M := s62.1) hq72
                  refine s_callS (pc := 177) (As := [.int x18]) (st := []) cl_X12_isDigit wt_X12_isDigit km_X12_223 rfl rfl (nle rfl) (nle rfl) (nle rfl) dX12_splits_177 hC73 ?_
                  show S0 X _ s62.1 180 [some (.ref (gh (xG X) + a0)), some (.int p1), none, some (.int x18), some (.int s31), some (.int s62.2)] [.int q71] _
                  refine s_ifeq (pc := 180) 247 dX12_splits_180 rfl ?_ ?_
                  · exact s_drop (hR67 s62.1 hs63) (And.intro rfl (And.intro rfl (And.intro rfl trivial)))
                  · refine s_aload_n (pc := 183) 0 dX12_splits_183 rfl rfl ?_
                    refine s_geto (pc := 184) F_12 20 rfl o68 dX12_splits_184 kf_X12_55 ?_
                    refine s_rvB (fun r74 => ?_)
                    refine s_aload_n (pc := 187) 0 dX12_splits_187 rfl rfl ?_
                    refine s_geti (pc := 188) F_12 22 rfl o68 dX12_splits_188 kf_X12_217 ?_
                    refine s_aload_n (pc := 191) 0 dX12_splits_191 rfl rfl ?_
                    refine s_geto (pc := 192) F_12 20 rfl o68 dX12_splits_192 kf_X12_55 ?_
                    refine s_rvB (fun r75 => ?_)
                    refine s_aload_n (pc := 195) 0 dX12_splits_195 rfl rfl ?_
                    refine s_geti (pc := 196) F_12 22 rfl o68 dX12_splits_196 kf_X12_217 ?_
                    refine s_grd (fun o76 => ?_)
                    refine s_grd (fun i77 => ?_)
                    refine s_iald (pc := 199) o76 i77 dX12_splits_199 ?_
                    refine s_ldc (pc := 200) dX12_splits_200 ki_X12_229 ?_
                    refine s_join s62.1 (fun s79 : Int32 => s62.1) 240 (fun s79 : Int32 => [some (.ref (gh (xG X) + a0)), some (.int p1), none, some (.int x18), some (.int s31), some (.int s62.2)]) (fun s79 : Int32 => [.int s79, .int (mI s62.1 a0 22), .ref (gh (xG X) + r74)]) (fun s79 hs80 => ?_) (fun j78 hj81 => ?_)
                    · show S0 X _ s62.1 240 [some (.ref (gh (xG X) + a0)), some (.int p1), none, some (.int x18), some (.int s31), some (.int s62.2)] [.int s79, .int (mI s62.1 a0 22), .ref (gh (xG X) + r74)] _
                      refine s_grd (fun o82 => ?_)
                      refine s_grd (fun i83 => ?_)
                      refine s_iast (pc := 240) o82 i83 dX12_splits_240 (fun M84 hM85 => ?_)
                      have h86 := le_wI hM85
                      have o87 := h86.ok o68
                      refine s_iinc (pc := 241) dX12_splits_241 rfl (v := s62.2 + 1) (congrArg (fun z : Int32 => s62.2 + z) kc_1) (nlt rfl) rfl (L' := [some (.ref (gh (xG X) + a0)), some (.int p1), none, some (.int x18), some (.int s31), some (.int (s62.2 + 1))]) rfl ?_
                      refine s_bv (fun x88 : Int32 => [some (.ref (gh (xG X) + a0)), some (.int p1), none, some (.int x18), some (.int s31), some (.int x88)]) (fun x88 => ?_) rfl
                      refine s_goto (pc := 244) 169 dX12_splits_244 rfl ?_
                      exact s_drop (hT65 (M84, x88) (hs63.tr h86)) (And.intro rfl (And.intro rfl (And.intro rfl (And.intro rfl (And.intro rfl trivial)))))
                    · refine s_icle (pc := 202) 217 dX12_splits_202 rfl ?_ ?_
                      · refine s_bipush (pc := 217) 10 dX12_splits_217 kb_10 ?_
                        refine s_aload_n (pc := 219) 0 dX12_splits_219 rfl rfl ?_
                        refine s_geto (pc := 220) F_12 20 rfl o68 dX12_splits_220 kf_X12_55 ?_
                        refine s_rvB (fun r89 => ?_)
                        refine s_aload_n (pc := 223) 0 dX12_splits_223 rfl rfl ?_
                        refine s_geti (pc := 224) F_12 22 rfl o68 dX12_splits_224 kf_X12_217 ?_
                        refine s_grd (fun o90 => ?_)
                        refine s_grd (fun i91 => ?_)
                        refine s_iald (pc := 227) o90 i91 dX12_splits_227 ?_
                        refine s_imul (pc := 228) dX12_splits_228 ?_
                        refine s_aload_n (pc := 229) 0 dX12_splits_229 rfl rfl ?_
                        refine s_geto (pc := 230) F_12 15 rfl o68 dX12_splits_230 kf_X12_43 ?_
                        refine s_rvB (fun r92 => ?_)
                        refine s_iload (pc := 233) dX12_splits_233 rfl ?_
                        refine s_grd (fun o93 => ?_)
                        refine s_grd (fun i94 => ?_)
                        refine s_bald (pc := 235) o93 i94 dX12_splits_235 ?_
                        refine s_iadd (pc := 236) dX12_splits_236 ?_
                        refine s_bipush (pc := 237) 48 dX12_splits_237 kb_48 ?_
                        refine s_isub (pc := 239) dX12_splits_239 ?_
                        exact s_drop (hj81 (((10 * (mI s62.1 r89 (mI s62.1 a0 22).toNatClampNeg)) + (mI s62.1 r92 s62.2.toNatClampNeg)) - 48) Le.rf) (And.intro rfl (And.intro rfl (And.intro rfl (And.intro rfl (And.intro rfl trivial)))))
                      · refine s_aload_n (pc := 205) 0 dX12_splits_205 rfl rfl ?_
                        refine s_geto (pc := 206) F_12 20 rfl o68 dX12_splits_206 kf_X12_55 ?_
                        refine s_rvB (fun r95 => ?_)
                        refine s_aload_n (pc := 209) 0 dX12_splits_209 rfl rfl ?_
                        refine s_geti (pc := 210) F_12 22 rfl o68 dX12_splits_210 kf_X12_217 ?_
                        refine s_grd (fun o96 => ?_)
                        refine s_grd (fun i97 => ?_)
                        refine s_iald (pc := 213) o96 i97 dX12_splits_213 ?_
                        refine s_goto (pc := 214) 240 dX12_splits_214 rfl ?_
                        exact s_drop (hj81 (mI s62.1 r95 (mI s62.1 a0 22).toNatClampNeg) Le.rf) (And.intro rfl (And.intro rfl (And.intro rfl (And.intro rfl (And.intro rfl trivial)))))
            · refine s_ifeq (pc := 132) 145 dX12_splits_132 rfl ?_ ?_
              · refine s_iload_n (pc := 145) 3 dX12_splits_145 rfl rfl ?_
                refine s_bind (fun q103 hq104 => ?_)
                have hC105 := t_X12_isDigit (l := xl X) (G := xG X) (M := M44) hq104
                refine s_callS (pc := 146) (As := [.int x18]) (st := [.int (mI M44 a0 22), .ref (gh (xG X) + r48)]) cl_X12_isDigit wt_X12_isDigit km_X12_223 rfl rfl (nle rfl) (nle rfl) (nle rfl) dX12_splits_146 hC105 ?_
                show S0 X _ M44 149 [some (.ref (gh (xG X) + a0)), some (.int p1), some (.int s6.2), some (.int x18), some (.int s31), none] [.int q103, .int (mI M44 a0 22), .ref (gh (xG X) + r48)] _
                refine s_ifeq (pc := 149) 157 dX12_splits_149 rfl ?_ ?_
                · refine s_bipush (pc := 157) 100 dX12_splits_157 kb_100 ?_
                  refine s_iload_n (pc := 159) 3 dX12_splits_159 rfl rfl ?_
                  refine s_sipush (pc := 160) 255 dX12_splits_160 ks_255 ?_
                  refine s_iand (pc := 163) dX12_splits_163 ?_
                  refine s_iadd (pc := 164) dX12_splits_164 ?_
                  exact s_drop (hj55 (100 + (x18 &&& 255)) Le.rf) (And.intro rfl (And.intro rfl (And.intro rfl (And.intro rfl (And.intro rfl trivial)))))
                · refine s_bipush (pc := 152) 50 dX12_splits_152 kb_50 ?_
                  refine s_goto (pc := 154) 165 dX12_splits_154 rfl ?_
                  exact s_drop (hj55 50 Le.rf) (And.intro rfl (And.intro rfl (And.intro rfl (And.intro rfl (And.intro rfl trivial)))))
              · refine s_aload_n (pc := 135) 0 dX12_splits_135 rfl rfl ?_
                refine s_iload_n (pc := 136) 2 dX12_splits_136 rfl rfl ?_
                refine s_iload (pc := 137) dX12_splits_137 rfl ?_
                refine s_bind (fun q106 hq107 => ?_)
                have hC108 := t_X12_wordOf (l := xl X) (G := xG X) hq107
                refine s_callV (pc := 139) (As := [.int s6.2, .int s31]) (st := [.int (mI M44 a0 22), .ref (gh (xG X) + r48)]) (nlt rfl) (q := (RX12, TX12, 59)) rfl rfl o47 cl_X12_wordOf wi_X12_wordOf wl_X12_wordOf km_X12_226 rfl rfl (nle rfl) (nle rfl) (nle rfl) dX12_splits_139 hC108 ?_
                show S0 X _ M44 142 [some (.ref (gh (xG X) + a0)), some (.int p1), some (.int s6.2), some (.int x18), some (.int s31), none] [.int q106, .int (mI M44 a0 22), .ref (gh (xG X) + r48)] _
                refine s_goto (pc := 142) 165 dX12_splits_142 rfl ?_
                exact s_drop (hj55 q106 Le.rf) (And.intro rfl (And.intro rfl (And.intro rfl (And.intro rfl (And.intro rfl trivial)))))
          · refine s_ifeq (pc := 72) 100 dX12_splits_72 rfl ?_ ?_
            · exact s_drop (hj33 s24 Le.rf) (And.intro rfl (And.intro rfl (And.intro rfl (And.intro rfl (And.intro rfl trivial)))))
            · refine s_drop (L' := [some (.ref (gh (xG X) + a0)), some (.int p1), some (.int s6.2), some (.int x18), some (.int s24), none]) ?_ (And.intro rfl (And.intro rfl (And.intro rfl (And.intro rfl (And.intro rfl trivial)))))
              refine s_loop1 s6.1 (fun s109 : Int32 => s6.1) (fun s109 : Int32 => [some (.ref (gh (xG X) + a0)), some (.int p1), some (.int s6.2), some (.int x18), some (.int s109), none]) (fun x115 : Int32 => s6.1) 100 (fun x115 : Int32 => [some (.ref (gh (xG X) + a0)), some (.int p1), some (.int s6.2), some (.int x18), some (.int x115), none]) (fun x115 hx116 => ?_) (fun T111 R113 hT112 hR114 s109 hs110 => ?_) s24 Le.rf
              · show S0 X _ s6.1 100 [some (.ref (gh (xG X) + a0)), some (.int p1), some (.int s6.2), some (.int x18), some (.int x115), none] [] _
                exact s_drop (hj33 x115 Le.rf) (And.intro rfl (And.intro rfl (And.intro rfl (And.intro rfl (And.intro rfl trivial)))))
              · show S0 X _ s6.1 75 [some (.ref (gh (xG X) + a0)), some (.int p1), some (.int s6.2), some (.int x18), some (.int s109), none] [] _
                refine s_iload (pc := 75) dX12_splits_75 rfl ?_
                refine s_iload_n (pc := 77) 1 dX12_splits_77 rfl rfl ?_
                refine s_icge (pc := 78) 100 dX12_splits_78 rfl ?_ ?_
                · exact s_drop (hR114 s109 Le.rf) (And.intro rfl (And.intro rfl (And.intro rfl (And.intro rfl (And.intro rfl trivial)))))
                · refine s_aload_n (pc := 81) 0 dX12_splits_81 rfl rfl ?_
                  refine s_geto (pc := 82) F_12 15 rfl o12 dX12_splits_82 kf_X12_43 ?_
                  refine s_rvB (fun r117 => ?_)
                  refine s_iload (pc := 85) dX12_splits_85 rfl ?_
                  refine s_grd (fun o118 => ?_)
                  refine s_grd (fun i119 => ?_)
                  refine s_bald (pc := 87) o118 i119 dX12_splits_87 ?_
                  refine s_bind (fun q120 hq121 => ?_)
                  have hC122 := t_X12_isDigit (l := xl X) (G := xG X) (M := s6.1) hq121
                  refine s_callS (pc := 88) (As := [.int (mI s6.1 r117 s109.toNatClampNeg)]) (st := []) cl_X12_isDigit wt_X12_isDigit km_X12_223 rfl rfl (nle rfl) (nle rfl) (nle rfl) dX12_splits_88 hC122 ?_
                  show S0 X _ s6.1 91 [some (.ref (gh (xG X) + a0)), some (.int p1), some (.int s6.2), some (.int x18), some (.int s109), none] [.int q120] _
                  refine s_ifeq (pc := 91) 100 dX12_splits_91 rfl ?_ ?_
                  · exact s_drop (hR114 s109 Le.rf) (And.intro rfl (And.intro rfl (And.intro rfl (And.intro rfl (And.intro rfl trivial)))))
                  · refine s_iinc (pc := 94) dX12_splits_94 rfl (v := s109 + 1) (congrArg (fun z : Int32 => s109 + z) kc_1) (nlt rfl) rfl (L' := [some (.ref (gh (xG X) + a0)), some (.int p1), some (.int s6.2), some (.int x18), some (.int (s109 + 1)), none]) rfl ?_
                    refine s_bv (fun x123 : Int32 => [some (.ref (gh (xG X) + a0)), some (.int p1), some (.int s6.2), some (.int x18), some (.int x123), none]) (fun x123 => ?_) rfl
                    refine s_goto (pc := 97) 75 dX12_splits_97 rfl ?_
                    exact s_drop (hT112 x123 Le.rf) (And.intro rfl (And.intro rfl (And.intro rfl (And.intro rfl (And.intro rfl trivial)))))
        · refine s_ifeq (pc := 40) 68 dX12_splits_40 rfl ?_ ?_
          · exact s_drop (hj26 x19 Le.rf) (And.intro rfl (And.intro rfl (And.intro rfl (And.intro rfl (And.intro rfl trivial)))))
          · refine s_drop (L' := [some (.ref (gh (xG X) + a0)), some (.int p1), some (.int s6.2), some (.int x18), some (.int x19), none]) ?_ (And.intro rfl (And.intro rfl (And.intro rfl (And.intro rfl (And.intro rfl trivial)))))
            refine s_loop1 s6.1 (fun s124 : Int32 => s6.1) (fun s124 : Int32 => [some (.ref (gh (xG X) + a0)), some (.int p1), some (.int s6.2), some (.int x18), some (.int s124), none]) (fun x130 : Int32 => s6.1) 68 (fun x130 : Int32 => [some (.ref (gh (xG X) + a0)), some (.int p1), some (.int s6.2), some (.int x18), some (.int x130), none]) (fun x130 hx131 => ?_) (fun T126 R128 hT127 hR129 s124 hs125 => ?_) x19 Le.rf
            · show S0 X _ s6.1 68 [some (.ref (gh (xG X) + a0)), some (.int p1), some (.int s6.2), some (.int x18), some (.int x130), none] [] _
              exact s_drop (hj26 x130 Le.rf) (And.intro rfl (And.intro rfl (And.intro rfl (And.intro rfl (And.intro rfl trivial)))))
            · show S0 X _ s6.1 43 [some (.ref (gh (xG X) + a0)), some (.int p1), some (.int s6.2), some (.int x18), some (.int s124), none] [] _
              refine s_iload (pc := 43) dX12_splits_43 rfl ?_
              refine s_iload_n (pc := 45) 1 dX12_splits_45 rfl rfl ?_
              refine s_icge (pc := 46) 68 dX12_splits_46 rfl ?_ ?_
              · exact s_drop (hR129 s124 Le.rf) (And.intro rfl (And.intro rfl (And.intro rfl (And.intro rfl (And.intro rfl trivial)))))
              · refine s_aload_n (pc := 49) 0 dX12_splits_49 rfl rfl ?_
                refine s_geto (pc := 50) F_12 15 rfl o12 dX12_splits_50 kf_X12_43 ?_
                refine s_rvB (fun r132 => ?_)
                refine s_iload (pc := 53) dX12_splits_53 rfl ?_
                refine s_grd (fun o133 => ?_)
                refine s_grd (fun i134 => ?_)
                refine s_bald (pc := 55) o133 i134 dX12_splits_55 ?_
                refine s_bind (fun q135 hq136 => ?_)
                have hC137 := t_X12_isSmall (l := xl X) (G := xG X) (M := s6.1) hq136
                refine s_callS (pc := 56) (As := [.int (mI s6.1 r132 s124.toNatClampNeg)]) (st := []) cl_X12_isSmall wt_X12_isSmall km_X12_220 rfl rfl (nle rfl) (nle rfl) (nle rfl) dX12_splits_56 hC137 ?_
                show S0 X _ s6.1 59 [some (.ref (gh (xG X) + a0)), some (.int p1), some (.int s6.2), some (.int x18), some (.int s124), none] [.int q135] _
                refine s_ifeq (pc := 59) 68 dX12_splits_59 rfl ?_ ?_
                · exact s_drop (hR129 s124 Le.rf) (And.intro rfl (And.intro rfl (And.intro rfl (And.intro rfl (And.intro rfl trivial)))))
                · refine s_iinc (pc := 62) dX12_splits_62 rfl (v := s124 + 1) (congrArg (fun z : Int32 => s124 + z) kc_1) (nlt rfl) rfl (L' := [some (.ref (gh (xG X) + a0)), some (.int p1), some (.int s6.2), some (.int x18), some (.int (s124 + 1)), none]) rfl ?_
                  refine s_bv (fun x138 : Int32 => [some (.ref (gh (xG X) + a0)), some (.int p1), some (.int s6.2), some (.int x18), some (.int x138), none]) (fun x138 => ?_) rfl
                  refine s_goto (pc := 65) 43 dX12_splits_65 rfl ?_
                  exact s_drop (hT127 x138 Le.rf) (And.intro rfl (And.intro rfl (And.intro rfl (And.intro rfl (And.intro rfl trivial)))))
      · refine s_iinc (pc := 25) dX12_splits_25 rfl (v := s6.2 + 1) (congrArg (fun z : Int32 => s6.2 + z) kc_1) (nlt rfl) rfl (L' := [some (.ref (gh (xG X) + a0)), some (.int p1), some (.int (s6.2 + 1)), some (.int x18), none, none]) rfl ?_
        refine s_bv (fun x139 : Int32 => [some (.ref (gh (xG X) + a0)), some (.int p1), some (.int x139), some (.int x18), none, none]) (fun x139 => ?_) rfl
        refine s_goto (pc := 28) 7 dX12_splits_28 rfl ?_
        exact s_drop (hT9 (s6.1, x139) hs7) (And.intro rfl (And.intro rfl (And.intro rfl trivial)))
set_option maxRecDepth 100000 in
set_option maxHeartbeats 8000000 in
noncomputable def f_X12_takes0 (M : Mem) (a0 : Nat) (p1 : Int32) : Option (Mem × Int32) :=
  grd (okO M 12 a0) (Option.bind (f_X12_fine M a0) (fun q2 => bv (fun (s6 : Int32) => if s6 = 0 then (grd (bl s6) (some (M, s6))) else (bv (wI M a0 23 ((mI M a0 23) + 1)) (fun M10 => grd (bl s6) (some (M10, s6))))) (fun j5 => bv (fun (s16 : Unit) => j5 0) (fun j15 => if q2 = 0 then (j15 ()) else (Option.bind (mR M a0 19) (fun r19 => grd (okO M 14 r19) (grd (vp_in (mI M a0 23) (mL M r19)) (if (mI M r19 (mI M a0 23).toNatClampNeg) = p1 then (j5 1) else (j15 ())))))))))
abbrev Y_X12_takes0 : Sta := (RX12, "takes0", cX12_takes0, 3, (some .boolean), 2)
set_option maxRecDepth 100000 in
set_option maxHeartbeats 8000000 in
theorem t_X12_takes0 {l : Launch} {G : Gh} {M : Mem} {a0 : Nat} {p1 : Int32} {q : Mem × Int32} (h : f_X12_takes0 M a0 p1 = some q) : Ctr l G yX12_takes0 Y_X12_takes0 M [.ref (gh G + a0), .int p1] q.1 (some (.int q.2)) := by
  refine Ctr.of (Y := Y_X12_takes0) (L := [some (.ref (gh G + a0)), some (.int p1), none]) (t := Option.bind (f_X12_takes0 M a0 p1) (fun q => some (q.1, some (.int q.2)))) (by decide) rfl rfl (nle rfl) (Lof_in 1 _ rfl) (fun X hG hl => ?_) (by rw [h]; rfl)
  subst hG
  subst hl
  unfold f_X12_takes0
  refine s_aload_n (pc := 0) 0 dX12_takes0_0 rfl rfl ?_
  refine s_grd (fun o1 => ?_)
  refine s_bind (fun q2 hq3 => ?_)
  have hC4 := t_X12_fine (l := xl X) (G := xG X) hq3
  refine s_callV (pc := 1) (As := []) (st := []) (nlt rfl) (q := (RX12, TX12, 59)) rfl rfl o1 cl_X12_fine wi_X12_fine wl_X12_fine km_X12_233 rfl rfl (nle rfl) (nle rfl) (nle rfl) dX12_takes0_1 hC4 ?_
  show S0 X _ M 4 [some (.ref (gh (xG X) + a0)), some (.int p1), none] [.int q2] _
  refine s_join M (fun s6 : Int32 => M) 25 (fun s6 : Int32 => [some (.ref (gh (xG X) + a0)), none, none]) (fun s6 : Int32 => [.int s6]) (fun s6 hs7 => ?_) (fun j5 hj8 => ?_)
  · show S0 X _ M 25 [some (.ref (gh (xG X) + a0)), none, none] [.int s6] _
    refine s_istore_n (pc := 25) 2 dX12_takes0_25 rfl (nlt rfl) rfl (L' := [some (.ref (gh (xG X) + a0)), none, some (.int s6)]) rfl ?_
    refine s_iload_n (pc := 26) 2 dX12_takes0_26 rfl rfl ?_
    refine s_ifeq (pc := 27) 40 dX12_takes0_27 rfl ?_ ?_
    · refine s_iload_n (pc := 40) 2 dX12_takes0_40 rfl rfl ?_
      refine s_grd (fun g9 => ?_)
      exact s_zret rfl g9 dX12_takes0_41
    · refine s_aload_n (pc := 30) 0 dX12_takes0_30 rfl rfl ?_
      refine s_dup (pc := 31) dX12_takes0_31 rfl ?_
      refine s_geti (pc := 32) F_12 23 rfl o1 dX12_takes0_32 kf_X12_237 ?_
      refine s_iconst (pc := 35) 1 dX12_takes0_35 kc_1 ?_
      refine s_iadd (pc := 36) dX12_takes0_36 ?_
      refine s_puti (pc := 37) F_12 23 rfl o1 rfl rfl rfl dX12_takes0_37 kf_X12_237 (fun M10 hM11 => ?_)
      have h12 := le_wI hM11
      have o13 := h12.ok o1
      refine s_iload_n (pc := 40) 2 dX12_takes0_40 rfl rfl ?_
      refine s_grd (fun g14 => ?_)
      exact s_zret rfl g14 dX12_takes0_41
  · refine s_join M (fun s16 : Unit => M) 24 (fun s16 : Unit => [some (.ref (gh (xG X) + a0)), none, none]) (fun s16 : Unit => []) (fun s16 hs17 => ?_) (fun j15 hj18 => ?_)
    · show S0 X _ M 24 [some (.ref (gh (xG X) + a0)), none, none] [] _
      refine s_iconst (pc := 24) 0 dX12_takes0_24 kc_0 ?_
      exact s_drop (hj8 0 Le.rf) (And.intro rfl trivial)
    · refine s_ifeq (pc := 4) 24 dX12_takes0_4 rfl ?_ ?_
      · exact s_drop (hj18 () Le.rf) (And.intro rfl trivial)
      · refine s_aload_n (pc := 7) 0 dX12_takes0_7 rfl rfl ?_
        refine s_geto (pc := 8) F_12 19 rfl o1 dX12_takes0_8 kf_X12_52 ?_
        refine s_rvB (fun r19 => ?_)
        refine s_aload_n (pc := 11) 0 dX12_takes0_11 rfl rfl ?_
        refine s_geti (pc := 12) F_12 23 rfl o1 dX12_takes0_12 kf_X12_237 ?_
        refine s_grd (fun o20 => ?_)
        refine s_grd (fun i21 => ?_)
        refine s_iald (pc := 15) o20 i21 dX12_takes0_15 ?_
        refine s_iload_n (pc := 16) 1 dX12_takes0_16 rfl rfl ?_
        refine s_icne (pc := 17) 24 dX12_takes0_17 rfl ?_ ?_
        · exact s_drop (hj18 () Le.rf) (And.intro rfl trivial)
        · refine s_iconst (pc := 20) 1 dX12_takes0_20 kc_1 ?_
          refine s_goto (pc := 21) 25 dX12_takes0_21 rfl ?_
          exact s_drop (hj8 1 Le.rf) (And.intro rfl trivial)
set_option maxRecDepth 100000 in
set_option maxHeartbeats 8000000 in
noncomputable def f_X12_terms (M : Mem) (a0 : Nat) (p1 : Int32) (p2 : Int32) : Option (Mem × Int32) :=
  Option.bind (f_X12_lies p1 0 1) (fun q1 => bv (fun (s5 : Unit) => grd (okO M 12 a0) (Option.bind (f_X12_refuses M a0 (-1)) (fun q9 => some (q9.1, q9.2)))) (fun j4 => if q1 = 0 then (j4 ()) else (bv (fun (s15 : Int32) => Option.bind (f_X12_lies p2 0 s15) (fun q18 => if q18 = 0 then (j4 ()) else (grd (okO M 12 a0) (Option.bind (mR M a0 3) (fun r22 => grd (okO M 14 r22) (grd (vp_in (54 + p1) (mL M r22)) (bv (mI M r22 (54 + p1).toNatClampNeg : Int32) (fun x25 => Option.bind (mR M a0 3) (fun r26 => grd (okO M 14 r26) (grd (vp_in (54 + p1) (mL M r26)) (bv (wI M r26 (54 + p1).toNatClampNeg p2) (fun M29 => Option.bind (f_X12_good M29 a0 x25) (fun q33 => some (q33.1, q33.2)))))))))))))) (fun j14 => if p1 = 0 then (j14 999) else (j14 9)))))
abbrev Y_X12_terms : Sta := (RX12, "terms", cX12_terms, 4, (some .int), 2)
set_option maxRecDepth 100000 in
set_option maxHeartbeats 8000000 in
theorem t_X12_terms {l : Launch} {G : Gh} {M : Mem} {a0 : Nat} {p1 : Int32} {p2 : Int32} {q : Mem × Int32} (h : f_X12_terms M a0 p1 p2 = some q) : Ctr l G yX12_terms Y_X12_terms M [.ref (gh G + a0), .int p1, .int p2] q.1 (some (.int q.2)) := by
  refine Ctr.of (Y := Y_X12_terms) (L := [some (.ref (gh G + a0)), some (.int p1), some (.int p2), none]) (t := Option.bind (f_X12_terms M a0 p1 p2) (fun q => some (q.1, some (.int q.2)))) (by decide) rfl rfl (nle rfl) (Lof_in 1 _ rfl) (fun X hG hl => ?_) (by rw [h]; rfl)
  subst hG
  subst hl
  unfold f_X12_terms
  refine s_iload_n (pc := 0) 1 dX12_terms_0 rfl rfl ?_
  refine s_iconst (pc := 1) 0 dX12_terms_1 kc_0 ?_
  refine s_iconst (pc := 2) 1 dX12_terms_2 kc_1 ?_
  refine s_bind (fun q1 hq2 => ?_)
  have hC3 := t_X12_lies (l := xl X) (G := xG X) (M := M) hq2
  refine s_callS (pc := 3) (As := [.int p1, .int 0, .int 1]) (st := []) cl_X12_lies wt_X12_lies km_X12_123 rfl rfl (nle rfl) (nle rfl) (nle rfl) dX12_terms_3 hC3 ?_
  show S0 X _ M 6 [some (.ref (gh (xG X) + a0)), some (.int p1), some (.int p2), none] [.int q1] _
  refine s_join M (fun s5 : Unit => M) 29 (fun s5 : Unit => [some (.ref (gh (xG X) + a0)), none, none, none]) (fun s5 : Unit => []) (fun s5 hs6 => ?_) (fun j4 hj7 => ?_)
  · show S0 X _ M 29 [some (.ref (gh (xG X) + a0)), none, none, none] [] _
    refine s_aload_n (pc := 29) 0 dX12_terms_29 rfl rfl ?_
    refine s_iconst (pc := 30) (-1) dX12_terms_30 kc_m1 ?_
    refine s_grd (fun o8 => ?_)
    refine s_bind (fun q9 hq10 => ?_)
    have hC11 := t_X12_refuses (l := xl X) (G := xG X) hq10
    refine s_callV (pc := 31) (As := [.int (-1)]) (st := []) (nlt rfl) (q := (RX12, TX12, 59)) rfl rfl o8 cl_X12_refuses wi_X12_refuses wl_X12_refuses km_X12_127 rfl rfl (nle rfl) (nle rfl) (nle rfl) dX12_terms_31 hC11 ?_
    have h12 := hC11.1 X
    have o13 := h12.ok o8
    show S0 X _ q9.1 34 [some (.ref (gh (xG X) + a0)), none, none, none] [.int q9.2] _
    exact s_iret rfl dX12_terms_34
  · refine s_ifeq (pc := 6) 29 dX12_terms_6 rfl ?_ ?_
    · exact s_drop (hj7 () Le.rf) (And.intro rfl trivial)
    · refine s_iload_n (pc := 9) 2 dX12_terms_9 rfl rfl ?_
      refine s_iconst (pc := 10) 0 dX12_terms_10 kc_0 ?_
      refine s_iload_n (pc := 11) 1 dX12_terms_11 rfl rfl ?_
      refine s_join M (fun s15 : Int32 => M) 23 (fun s15 : Int32 => [some (.ref (gh (xG X) + a0)), some (.int p1), some (.int p2), none]) (fun s15 : Int32 => [.int s15, .int 0, .int p2]) (fun s15 hs16 => ?_) (fun j14 hj17 => ?_)
      · show S0 X _ M 23 [some (.ref (gh (xG X) + a0)), some (.int p1), some (.int p2), none] [.int s15, .int 0, .int p2] _
        refine s_bind (fun q18 hq19 => ?_)
        have hC20 := t_X12_lies (l := xl X) (G := xG X) (M := M) hq19
        refine s_callS (pc := 23) (As := [.int p2, .int 0, .int s15]) (st := []) cl_X12_lies wt_X12_lies km_X12_123 rfl rfl (nle rfl) (nle rfl) (nle rfl) dX12_terms_23 hC20 ?_
        show S0 X _ M 26 [some (.ref (gh (xG X) + a0)), some (.int p1), some (.int p2), none] [.int q18] _
        refine s_ifne (pc := 26) 35 dX12_terms_26 rfl ?_ ?_
        · refine s_aload_n (pc := 35) 0 dX12_terms_35 rfl rfl ?_
          refine s_grd (fun o21 => ?_)
          refine s_geto (pc := 36) F_12 3 rfl o21 dX12_terms_36 kf_X12_20 ?_
          refine s_rvB (fun r22 => ?_)
          refine s_bipush (pc := 39) 54 dX12_terms_39 kb_54 ?_
          refine s_iload_n (pc := 41) 1 dX12_terms_41 rfl rfl ?_
          refine s_iadd (pc := 42) dX12_terms_42 ?_
          refine s_grd (fun o23 => ?_)
          refine s_grd (fun i24 => ?_)
          refine s_iald (pc := 43) o23 i24 dX12_terms_43 ?_
          refine s_istore_n (pc := 44) 3 dX12_terms_44 rfl (nlt rfl) rfl (L' := [some (.ref (gh (xG X) + a0)), some (.int p1), some (.int p2), some (.int (mI M r22 (54 + p1).toNatClampNeg))]) rfl ?_
          refine s_bv (fun x25 : Int32 => [some (.ref (gh (xG X) + a0)), some (.int p1), some (.int p2), some (.int x25)]) (fun x25 => ?_) rfl
          refine s_aload_n (pc := 45) 0 dX12_terms_45 rfl rfl ?_
          refine s_geto (pc := 46) F_12 3 rfl o21 dX12_terms_46 kf_X12_20 ?_
          refine s_rvB (fun r26 => ?_)
          refine s_bipush (pc := 49) 54 dX12_terms_49 kb_54 ?_
          refine s_iload_n (pc := 51) 1 dX12_terms_51 rfl rfl ?_
          refine s_iadd (pc := 52) dX12_terms_52 ?_
          refine s_iload_n (pc := 53) 2 dX12_terms_53 rfl rfl ?_
          refine s_grd (fun o27 => ?_)
          refine s_grd (fun i28 => ?_)
          refine s_iast (pc := 54) o27 i28 dX12_terms_54 (fun M29 hM30 => ?_)
          have h31 := le_wI hM30
          have o32 := h31.ok o21
          refine s_aload_n (pc := 55) 0 dX12_terms_55 rfl rfl ?_
          refine s_iload_n (pc := 56) 3 dX12_terms_56 rfl rfl ?_
          refine s_bind (fun q33 hq34 => ?_)
          have hC35 := t_X12_good (l := xl X) (G := xG X) hq34
          refine s_callV (pc := 57) (As := [.int x25]) (st := []) (nlt rfl) (q := (RX12, TX12, 59)) rfl rfl o32 cl_X12_good wi_X12_good wl_X12_good km_X12_131 rfl rfl (nle rfl) (nle rfl) (nle rfl) dX12_terms_57 hC35 ?_
          have h36 := hC35.1 X
          have o37 := h36.ok o32
          show S0 X _ q33.1 60 [some (.ref (gh (xG X) + a0)), some (.int p1), some (.int p2), some (.int x25)] [.int q33.2] _
          exact s_iret rfl dX12_terms_60
        · exact s_drop (hj7 () Le.rf) (And.intro rfl trivial)
      · refine s_ifne (pc := 12) 21 dX12_terms_12 rfl ?_ ?_
        · refine s_bipush (pc := 21) 9 dX12_terms_21 kb_9 ?_
          exact s_drop (hj17 9 Le.rf) (And.intro rfl (And.intro rfl (And.intro rfl trivial)))
        · refine s_sipush (pc := 15) 999 dX12_terms_15 ks_999 ?_
          refine s_goto (pc := 18) 23 dX12_terms_18 rfl ?_
          exact s_drop (hj17 999 Le.rf) (And.intro rfl (And.intro rfl (And.intro rfl trivial)))
set_option maxRecDepth 100000 in
set_option maxHeartbeats 8000000 in
noncomputable def f_X12_undo (M : Mem) (a0 : Nat) : Option (Mem × Int32) :=
  grd (okO M 12 a0) (Option.bind (mR M a0 3) (fun r2 => grd (okO M 14 r2) (grd (vp_in 56 (mL M r2)) (if (mI M r2 (56 : Int32).toNatClampNeg) = 0 then (Option.bind (f_X12_refuses M a0 (-3)) (fun q23 => some (q23.1, q23.2))) else (Option.bind (mR M a0 3) (fun r5 => grd (okO M 14 r5) (grd (vp_in 56 (mL M r5)) (bv (wI M r5 (56 : Int32).toNatClampNeg ((mI M r5 (56 : Int32).toNatClampNeg) - 1)) (fun M8 => Option.bind (mR M8 a0 3) (fun r12 => grd (okO M8 14 r12) (grd (vp_in 56 (mL M8 r12)) (Option.bind (f_X12_fact M8 a0 (mI M8 r12 (56 : Int32).toNatClampNeg) 2) (fun q15 => Option.bind (f_X12_good M8 a0 q15) (fun q18 => some (q18.1, q18.2)))))))))))))))
abbrev Y_X12_undo : Sta := (RX12, "undo", cX12_undo, 1, (some .int), 2)
set_option maxRecDepth 100000 in
set_option maxHeartbeats 8000000 in
theorem t_X12_undo {l : Launch} {G : Gh} {M : Mem} {a0 : Nat} {q : Mem × Int32} (h : f_X12_undo M a0 = some q) : Ctr l G yX12_undo Y_X12_undo M [.ref (gh G + a0)] q.1 (some (.int q.2)) := by
  refine Ctr.of (Y := Y_X12_undo) (L := [some (.ref (gh G + a0))]) (t := Option.bind (f_X12_undo M a0) (fun q => some (q.1, some (.int q.2)))) (by decide) rfl rfl (nle rfl) (Lof_in 0 _ rfl) (fun X hG hl => ?_) (by rw [h]; rfl)
  subst hG
  subst hl
  unfold f_X12_undo
  refine s_aload_n (pc := 0) 0 dX12_undo_0 rfl rfl ?_
  refine s_grd (fun o1 => ?_)
  refine s_geto (pc := 1) F_12 3 rfl o1 dX12_undo_1 kf_X12_20 ?_
  refine s_rvB (fun r2 => ?_)
  refine s_bipush (pc := 4) 56 dX12_undo_4 kb_56 ?_
  refine s_grd (fun o3 => ?_)
  refine s_grd (fun i4 => ?_)
  refine s_iald (pc := 6) o3 i4 dX12_undo_6 ?_
  refine s_ifne (pc := 7) 17 dX12_undo_7 rfl ?_ ?_
  · refine s_aload_n (pc := 17) 0 dX12_undo_17 rfl rfl ?_
    refine s_geto (pc := 18) F_12 3 rfl o1 dX12_undo_18 kf_X12_20 ?_
    refine s_rvB (fun r5 => ?_)
    refine s_bipush (pc := 21) 56 dX12_undo_21 kb_56 ?_
    refine s_dup2 (pc := 23) dX12_undo_23 rfl rfl ?_
    refine s_grd (fun o6 => ?_)
    refine s_grd (fun i7 => ?_)
    refine s_iald (pc := 24) o6 i7 dX12_undo_24 ?_
    refine s_iconst (pc := 25) 1 dX12_undo_25 kc_1 ?_
    refine s_isub (pc := 26) dX12_undo_26 ?_
    refine s_iast (pc := 27) o6 i7 dX12_undo_27 (fun M8 hM9 => ?_)
    have h10 := le_wI hM9
    have o11 := h10.ok o1
    refine s_aload_n (pc := 28) 0 dX12_undo_28 rfl rfl ?_
    refine s_aload_n (pc := 29) 0 dX12_undo_29 rfl rfl ?_
    refine s_aload_n (pc := 30) 0 dX12_undo_30 rfl rfl ?_
    refine s_geto (pc := 31) F_12 3 rfl o11 dX12_undo_31 kf_X12_20 ?_
    refine s_rvB (fun r12 => ?_)
    refine s_bipush (pc := 34) 56 dX12_undo_34 kb_56 ?_
    refine s_grd (fun o13 => ?_)
    refine s_grd (fun i14 => ?_)
    refine s_iald (pc := 36) o13 i14 dX12_undo_36 ?_
    refine s_iconst (pc := 37) 2 dX12_undo_37 kc_2 ?_
    refine s_bind (fun q15 hq16 => ?_)
    have hC17 := t_X12_fact (l := xl X) (G := xG X) hq16
    refine s_callV (pc := 38) (As := [.int (mI M8 r12 (56 : Int32).toNatClampNeg), .int 2]) (st := [.ref (gh (xG X) + a0)]) (nlt rfl) (q := (RX12, TX12, 59)) rfl rfl o11 cl_X12_fact wi_X12_fact wl_X12_fact km_X12_194 rfl rfl (nle rfl) (nle rfl) (nle rfl) dX12_undo_38 hC17 ?_
    show S0 X _ M8 41 [some (.ref (gh (xG X) + a0))] [.int q15, .ref (gh (xG X) + a0)] _
    refine s_bind (fun q18 hq19 => ?_)
    have hC20 := t_X12_good (l := xl X) (G := xG X) hq19
    refine s_callV (pc := 41) (As := [.int q15]) (st := []) (nlt rfl) (q := (RX12, TX12, 59)) rfl rfl o11 cl_X12_good wi_X12_good wl_X12_good km_X12_131 rfl rfl (nle rfl) (nle rfl) (nle rfl) dX12_undo_41 hC20 ?_
    have h21 := hC20.1 X
    have o22 := h21.ok o11
    show S0 X _ q18.1 44 [some (.ref (gh (xG X) + a0))] [.int q18.2] _
    exact s_iret rfl dX12_undo_44
  · refine s_aload_n (pc := 10) 0 dX12_undo_10 rfl rfl ?_
    refine s_bipush (pc := 11) (-3) dX12_undo_11 kb_m3 ?_
    refine s_bind (fun q23 hq24 => ?_)
    have hC25 := t_X12_refuses (l := xl X) (G := xG X) hq24
    refine s_callV (pc := 13) (As := [.int (-3)]) (st := []) (nlt rfl) (q := (RX12, TX12, 59)) rfl rfl o1 cl_X12_refuses wi_X12_refuses wl_X12_refuses km_X12_127 rfl rfl (nle rfl) (nle rfl) (nle rfl) dX12_undo_13 hC25 ?_
    have h26 := hC25.1 X
    have o27 := h26.ok o1
    show S0 X _ q23.1 16 [some (.ref (gh (xG X) + a0))] [.int q23.2] _
    exact s_iret rfl dX12_undo_16
set_option maxRecDepth 100000 in
set_option maxHeartbeats 8000000 in
noncomputable def f_X12_without (M : Mem) (a0 : Nat) (p1 : Int32) (p2 : Int32) : Option (Mem × Int32) :=
  grd (okO M 12 a0) (Option.bind (f_X12_opens M a0 p1) (fun q2 => Option.bind (loopO (σ := Mem × Int32 × Int32) (ρ := Mem × Int32) (fun s7 => if (mI s7.1 a0 7) ≤ s7.2.2 then (some (.inr (s7.1, s7.2.1))) else (Option.bind (mR s7.1 a0 6) (fun r16 => grd (okO s7.1 14 r16) (grd (vp_in s7.2.2 (mL s7.1 r16)) (bv (fun (s20 : Mem × Int32) => bv (s7.2.2 + 1 : Int32) (fun x24 => some (.inl (s20.1, s20.2, x24)))) (fun j19 => if (mI s7.1 r16 s7.2.2.toNatClampNeg) = p2 then (j19 (s7.1, s7.2.1)) else (Option.bind (mR s7.1 a0 6) (fun r25 => Option.bind (mR s7.1 a0 6) (fun r26 => grd (okO s7.1 14 r26) (grd (vp_in s7.2.2 (mL s7.1 r26)) (grd (okO s7.1 14 r25) (grd (vp_in s7.2.1 (mL s7.1 r25)) (bv (wI s7.1 r25 s7.2.1.toNatClampNeg (mI s7.1 r26 s7.2.2.toNatClampNeg)) (fun M31 => bv (s7.2.1 + 1 : Int32) (fun x35 => j19 (M31, x35)))))))))))))))) (q2, 0, 0)) (fun (x14 : Mem × Int32) => bv (wI x14.1 a0 7 x14.2) (fun M37 => Option.bind (f_X12_closes M37 a0) (fun q41 => some (M37, q41))))))
abbrev Y_X12_without : Sta := (RX12, "without", cX12_without, 5, (some .int), 2)
set_option maxRecDepth 100000 in
set_option maxHeartbeats 8000000 in
theorem t_X12_without {l : Launch} {G : Gh} {M : Mem} {a0 : Nat} {p1 : Int32} {p2 : Int32} {q : Mem × Int32} (h : f_X12_without M a0 p1 p2 = some q) : Ctr l G yX12_without Y_X12_without M [.ref (gh G + a0), .int p1, .int p2] q.1 (some (.int q.2)) := by
  refine Ctr.of (Y := Y_X12_without) (L := [some (.ref (gh G + a0)), some (.int p1), some (.int p2), none, none]) (t := Option.bind (f_X12_without M a0 p1 p2) (fun q => some (q.1, some (.int q.2)))) (by decide) rfl rfl (nle rfl) (Lof_in 2 _ rfl) (fun X hG hl => ?_) (by rw [h]; rfl)
  subst hG
  subst hl
  unfold f_X12_without
  refine s_aload_n (pc := 0) 0 dX12_without_0 rfl rfl ?_
  refine s_iload_n (pc := 1) 1 dX12_without_1 rfl rfl ?_
  refine s_grd (fun o1 => ?_)
  refine s_bind (fun q2 hq3 => ?_)
  have hC4 := t_X12_opens (l := xl X) (G := xG X) hq3
  refine s_callV (pc := 2) (As := [.int p1]) (st := []) (nlt rfl) (q := (RX12, TX12, 59)) rfl rfl o1 cl_X12_opens wi_X12_opens wl_X12_opens km_X12_145 rfl rfl (nle rfl) (nle rfl) (nle rfl) dX12_without_2 hC4 ?_
  have h5 := hC4.1 X
  have o6 := h5.ok o1
  show S0 X _ q2 5 [some (.ref (gh (xG X) + a0)), some (.int p1), some (.int p2), none, none] [] _
  refine s_iconst (pc := 5) 0 dX12_without_5 kc_0 ?_
  refine s_istore_n (pc := 6) 3 dX12_without_6 rfl (nlt rfl) rfl (L' := [some (.ref (gh (xG X) + a0)), some (.int p1), some (.int p2), some (.int 0), none]) rfl ?_
  refine s_iconst (pc := 7) 0 dX12_without_7 kc_0 ?_
  refine s_istore (pc := 8) dX12_without_8 (nlt rfl) rfl (L' := [some (.ref (gh (xG X) + a0)), some (.int p1), some (.int p2), some (.int 0), some (.int 0)]) rfl ?_
  refine s_drop (L' := [some (.ref (gh (xG X) + a0)), none, some (.int p2), some (.int 0), some (.int 0)]) ?_ (And.intro rfl (And.intro rfl (And.intro rfl (And.intro rfl trivial))))
  refine s_loop1 q2 (fun s7 : Mem × Int32 × Int32 => s7.1) (fun s7 : Mem × Int32 × Int32 => [some (.ref (gh (xG X) + a0)), none, some (.int p2), some (.int s7.2.1), some (.int s7.2.2)]) (fun x14 : Mem × Int32 => x14.1) 55 (fun x14 : Mem × Int32 => [some (.ref (gh (xG X) + a0)), none, none, some (.int x14.2), none]) (fun x14 hx15 => ?_) (fun T9 R11 hT10 hR12 s7 hs8 => ?_) (q2, 0, 0) Le.rf
  · show S0 X _ x14.1 55 [some (.ref (gh (xG X) + a0)), none, none, some (.int x14.2), none] [] _
    have o36 := hx15.ok o6
    refine s_aload_n (pc := 55) 0 dX12_without_55 rfl rfl ?_
    refine s_iload_n (pc := 56) 3 dX12_without_56 rfl rfl ?_
    refine s_puti (pc := 57) F_12 7 rfl o36 rfl rfl rfl dX12_without_57 kf_X12_142 (fun M37 hM38 => ?_)
    have h39 := le_wI hM38
    have o40 := h39.ok o36
    refine s_aload_n (pc := 60) 0 dX12_without_60 rfl rfl ?_
    refine s_bind (fun q41 hq42 => ?_)
    have hC43 := t_X12_closes (l := xl X) (G := xG X) hq42
    refine s_callV (pc := 61) (As := []) (st := []) (nlt rfl) (q := (RX12, TX12, 59)) rfl rfl o40 cl_X12_closes wi_X12_closes wl_X12_closes km_X12_152 rfl rfl (nle rfl) (nle rfl) (nle rfl) dX12_without_61 hC43 ?_
    show S0 X _ M37 64 [some (.ref (gh (xG X) + a0)), none, none, some (.int x14.2), none] [.int q41] _
    exact s_iret rfl dX12_without_64
  · show S0 X _ s7.1 10 [some (.ref (gh (xG X) + a0)), none, some (.int p2), some (.int s7.2.1), some (.int s7.2.2)] [] _
    have o13 := hs8.ok o6
    refine s_iload (pc := 10) dX12_without_10 rfl ?_
    refine s_aload_n (pc := 12) 0 dX12_without_12 rfl rfl ?_
    refine s_geti (pc := 13) F_12 7 rfl o13 dX12_without_13 kf_X12_142 ?_
    refine s_icge (pc := 16) 55 dX12_without_16 rfl ?_ ?_
    · exact s_drop (hR12 (s7.1, s7.2.1) hs8) (And.intro rfl (And.intro rfl trivial))
    · refine s_aload_n (pc := 19) 0 dX12_without_19 rfl rfl ?_
      refine s_geto (pc := 20) F_12 6 rfl o13 dX12_without_20 kf_X12_30 ?_
      refine s_rvB (fun r16 => ?_)
      refine s_iload (pc := 23) dX12_without_23 rfl ?_
      refine s_grd (fun o17 => ?_)
      refine s_grd (fun i18 => ?_)
      refine s_iald (pc := 25) o17 i18 dX12_without_25 ?_
      refine s_iload_n (pc := 26) 2 dX12_without_26 rfl rfl ?_
      refine s_join s7.1 (fun s20 : Mem × Int32 => s20.1) 49 (fun s20 : Mem × Int32 => [some (.ref (gh (xG X) + a0)), none, some (.int p2), some (.int s20.2), some (.int s7.2.2)]) (fun s20 : Mem × Int32 => []) (fun s20 hs21 => ?_) (fun j19 hj22 => ?_)
      · show S0 X _ s20.1 49 [some (.ref (gh (xG X) + a0)), none, some (.int p2), some (.int s20.2), some (.int s7.2.2)] [] _
        have o23 := hs21.ok o13
        refine s_iinc (pc := 49) dX12_without_49 rfl (v := s7.2.2 + 1) (congrArg (fun z : Int32 => s7.2.2 + z) kc_1) (nlt rfl) rfl (L' := [some (.ref (gh (xG X) + a0)), none, some (.int p2), some (.int s20.2), some (.int (s7.2.2 + 1))]) rfl ?_
        refine s_bv (fun x24 : Int32 => [some (.ref (gh (xG X) + a0)), none, some (.int p2), some (.int s20.2), some (.int x24)]) (fun x24 => ?_) rfl
        refine s_goto (pc := 52) 10 dX12_without_52 rfl ?_
        exact s_drop (hT10 (s20.1, s20.2, x24) (hs8.tr hs21)) (And.intro rfl (And.intro rfl (And.intro rfl (And.intro rfl trivial))))
      · refine s_icne (pc := 27) 33 dX12_without_27 rfl ?_ ?_
        · refine s_aload_n (pc := 33) 0 dX12_without_33 rfl rfl ?_
          refine s_geto (pc := 34) F_12 6 rfl o13 dX12_without_34 kf_X12_30 ?_
          refine s_rvB (fun r25 => ?_)
          refine s_iload_n (pc := 37) 3 dX12_without_37 rfl rfl ?_
          refine s_aload_n (pc := 38) 0 dX12_without_38 rfl rfl ?_
          refine s_geto (pc := 39) F_12 6 rfl o13 dX12_without_39 kf_X12_30 ?_
          refine s_rvB (fun r26 => ?_)
          refine s_iload (pc := 42) dX12_without_42 rfl ?_
          refine s_grd (fun o27 => ?_)
          refine s_grd (fun i28 => ?_)
          refine s_iald (pc := 44) o27 i28 dX12_without_44 ?_
          refine s_grd (fun o29 => ?_)
          refine s_grd (fun i30 => ?_)
          refine s_iast (pc := 45) o29 i30 dX12_without_45 (fun M31 hM32 => ?_)
          have h33 := le_wI hM32
          have o34 := h33.ok o13
          refine s_iinc (pc := 46) dX12_without_46 rfl (v := s7.2.1 + 1) (congrArg (fun z : Int32 => s7.2.1 + z) kc_1) (nlt rfl) rfl (L' := [some (.ref (gh (xG X) + a0)), none, some (.int p2), some (.int (s7.2.1 + 1)), some (.int s7.2.2)]) rfl ?_
          refine s_bv (fun x35 : Int32 => [some (.ref (gh (xG X) + a0)), none, some (.int p2), some (.int x35), some (.int s7.2.2)]) (fun x35 => ?_) rfl
          exact s_drop (hj22 (M31, x35) h33) (And.intro rfl (And.intro rfl (And.intro rfl (And.intro rfl trivial))))
        · refine s_goto (pc := 30) 49 dX12_without_30 rfl ?_
          exact s_drop (hj22 (s7.1, s7.2.1) Le.rf) (And.intro rfl (And.intro rfl (And.intro rfl (And.intro rfl trivial))))
set_option maxRecDepth 100000 in
set_option maxHeartbeats 8000000 in
noncomputable def f_X1_init (M : Mem) (a0 : Nat) (a1 : Nat) (a2 : Nat) : Option Mem :=
  bv (nO M 6 4) (fun M1 => Option.bind (f_X6_init M1 (mn M)) (fun q5 => grd (okO q5 1 a0) (bv (wR q5 a0 2 (some (mn M))) (fun M11 => bv (nA M11 14 (45 : Int32).toNatClampNeg) (fun M15 => bv (wR M15 a0 3 (some (mn M11))) (fun M20 => bv (nA M20 14 (45 : Int32).toNatClampNeg) (fun M24 => bv (wR M24 a0 4 (some (mn M20))) (fun M29 => bv (wR M29 a0 0 (some a1)) (fun M33 => bv (wR M33 a0 1 (some a2)) (fun M37 => some M37))))))))))
abbrev Y_X1_init : Sta := (RX1, "<init>", cX1_init, 3, none, 2)
set_option maxRecDepth 100000 in
set_option maxHeartbeats 8000000 in
theorem t_X1_init {l : Launch} {G : Gh} {M : Mem} {a0 : Nat} {a1 : Nat} {a2 : Nat} {q : Mem} (h : f_X1_init M a0 a1 a2 = some q) : Ctr l G yX1_init Y_X1_init M [.ref (gh G + a0), .ref (gh G + a1), .ref (gh G + a2)] q (none) := by
  refine Ctr.of (Y := Y_X1_init) (L := [some (.ref (gh G + a0)), some (.ref (gh G + a1)), some (.ref (gh G + a2))]) (t := Option.bind (f_X1_init M a0 a1 a2) (fun q => some (q, (none : Option Value)))) (by decide) rfl rfl (nle rfl) (Lof_in 0 _ rfl) (fun X hG hl => ?_) (by rw [h]; rfl)
  subst hG
  subst hl
  unfold f_X1_init
  refine s_aload_n (pc := 0) 0 dX1_init_0 rfl rfl ?_
  refine s_obj (pc := 1) km_X1_3 wi_obj wc_obj (nle rfl) (nle rfl) dX1_init_1 ?_
  refine s_aload_n (pc := 4) 0 dX1_init_4 rfl rfl ?_
  refine s_new (pc := 5) F_6 kk_X1_9 dX1_init_5 (fun M1 hM2 => ?_)
  have h3 := le_nO hM2
  have o4 := ok_nO hM2
  refine s_dup (pc := 8) dX1_init_8 rfl ?_
  refine s_bind (fun q5 hq6 => ?_)
  have hC7 := t_X6_init (l := xl X) (G := xG X) hq6
  refine s_callIN (pc := 9) (As := []) (st := [.ref (gh (xG X) + (mn M)), .ref (gh (xG X) + a0)]) rfl rfl cl_X6_init wi_X6_init (List.mem_of_getElem? (i := 4) rfl) rfl rfl (nle rfl) (nle rfl) (nle rfl) dX1_init_9 hC7 ?_
  have h8 := hC7.1 X
  have o9 := h8.ok o4
  show S0 X _ q5 12 [some (.ref (gh (xG X) + a0)), some (.ref (gh (xG X) + a1)), some (.ref (gh (xG X) + a2))] [.ref (gh (xG X) + (mn M)), .ref (gh (xG X) + a0)] _
  refine s_grd (fun o10 => ?_)
  refine s_putrF (pc := 12) F_1 2 rfl o10 rfl rfl rfl rfl rfl dX1_init_12 kf_X1_12 (fun M11 hM12 => ?_)
  have h13 := le_wR hM12
  have o14 := h13.ok o10
  refine s_aload_n (pc := 15) 0 dX1_init_15 rfl rfl ?_
  refine s_bipush (pc := 16) 45 dX1_init_16 kb_45 ?_
  refine s_newa_int (pc := 18) (And.intro (by decide) (by decide)) dX1_init_18 wa_int (fun M15 hM16 => ?_)
  have h17 := le_nA hM16
  have o18 := h17.ok o14
  have o19 := ok_nA hM16
  refine s_putrF (pc := 20) F_1 3 rfl o18 rfl rfl rfl rfl rfl dX1_init_20 kf_X1_18 (fun M20 hM21 => ?_)
  have h22 := le_wR hM21
  have o23 := h22.ok o18
  refine s_aload_n (pc := 23) 0 dX1_init_23 rfl rfl ?_
  refine s_bipush (pc := 24) 45 dX1_init_24 kb_45 ?_
  refine s_newa_int (pc := 26) (And.intro (by decide) (by decide)) dX1_init_26 wa_int (fun M24 hM25 => ?_)
  have h26 := le_nA hM25
  have o27 := h26.ok o23
  have o28 := ok_nA hM25
  refine s_putrF (pc := 28) F_1 4 rfl o27 rfl rfl rfl rfl rfl dX1_init_28 kf_X1_22 (fun M29 hM30 => ?_)
  have h31 := le_wR hM30
  have o32 := h31.ok o27
  refine s_aload_n (pc := 31) 0 dX1_init_31 rfl rfl ?_
  refine s_aload_n (pc := 32) 1 dX1_init_32 rfl rfl ?_
  refine s_putrF (pc := 33) F_1 0 rfl o32 rfl rfl rfl rfl rfl dX1_init_33 kf_X1_25 (fun M33 hM34 => ?_)
  have h35 := le_wR hM34
  have o36 := h35.ok o32
  refine s_aload_n (pc := 36) 0 dX1_init_36 rfl rfl ?_
  refine s_aload_n (pc := 37) 2 dX1_init_37 rfl rfl ?_
  refine s_putrF (pc := 38) F_1 1 rfl o36 rfl rfl rfl rfl rfl dX1_init_38 kf_X1_29 (fun M37 hM38 => ?_)
  have h39 := le_wR hM38
  have o40 := h39.ok o36
  exact s_vret rfl dX1_init_41
