noncomputable def f_X4_stepsFrom (M : Mem) (a0 : Nat) (x1 : Int32) (x2 : Int32) (x3 : Int32) : Option (Mem × Int32) :=
  grd (okO M 4 a0) (Option.bind (f_X4_tableTo M a0 x2 x3) (fun q2 => grd (okO q2.1 2 q2.2) (Option.bind (f_X2_spread q2.1 q2.2 x1 9331) (fun q8 => Option.bind (mR q8 q2.2 2) (fun r14 => grd (okO q8 16 r14) (grd (vp_in x1 (mL q8 r14)) (some (q8, mI q8 r14 x1.toNatClampNeg))))))))
abbrev Y_X4_stepsFrom : Sta := (RX4, "stepsFrom", cX4_stepsFrom, 5, (some .int), 7)
set_option maxRecDepth 100000 in
set_option maxHeartbeats 8000000 in
theorem t_X4_stepsFrom {l : Launch} {G : Gh} {M : Mem} {a0 : Nat} {x1 : Int32} {x2 : Int32} {x3 : Int32} {q : Mem × Int32} (h : f_X4_stepsFrom M a0 x1 x2 x3 = some q) : Ctr l G yX4_stepsFrom Y_X4_stepsFrom M [.ref (gh G + a0), .int x1, .int x2, .int x3] q.1 (some (.int q.2)) := by
  refine Ctr.of (Y := Y_X4_stepsFrom) (L := [some (.ref (gh G + a0)), some (.int x1), some (.int x2), some (.int x3), none]) (t := Option.bind (f_X4_stepsFrom M a0 x1 x2 x3) (fun q => some (q.1, some (.int q.2)))) (by decide) rfl rfl (nle rfl) (Lof_in 1 _ rfl) (fun X hG hl => ?_) (by rw [h]; rfl)
  subst hG
  subst hl
  unfold f_X4_stepsFrom
  refine s_aload_n (pc := 0) 0 dX4_stepsFrom_0 rfl rfl ?_
  refine s_iload_n (pc := 1) 2 dX4_stepsFrom_1 rfl rfl ?_
  refine s_iload_n (pc := 2) 3 dX4_stepsFrom_2 rfl rfl ?_
  refine s_grd (fun o1 => ?_)
  refine s_bind (fun q2 hq3 => ?_)
  have hC4 := t_X4_tableTo (l := xl X) (G := xG X) hq3
  refine s_callV (pc := 3) (As := [.int x2, .int x3]) (st := []) (nlt rfl) (q := (RX4, TX4, 10)) rfl rfl o1 cl_X4_tableTo wi_X4_tableTo wl_X4_tableTo km_X4_46 rfl rfl (nle rfl) (nle rfl) (nle rfl) dX4_stepsFrom_3 hC4 ?_
  have h5 := hC4.1 X
  have o6 := h5.ok o1
  show S0 X _ q2.1 6 [some (.ref (gh (xG X) + a0)), some (.int x1), some (.int x2), some (.int x3), none] [.ref (gh (xG X) + q2.2)] _
  refine s_astore (pc := 6) dX4_stepsFrom_6 (nlt rfl) rfl (L' := [some (.ref (gh (xG X) + a0)), some (.int x1), some (.int x2), some (.int x3), some (.ref (gh (xG X) + q2.2))]) rfl ?_
  refine s_aload (pc := 8) dX4_stepsFrom_8 rfl ?_
  refine s_iload_n (pc := 10) 1 dX4_stepsFrom_10 rfl rfl ?_
  refine s_sipush (pc := 11) 9331 dX4_stepsFrom_11 ks_9331 ?_
  refine s_grd (fun o7 => ?_)
  refine s_bind (fun q8 hq9 => ?_)
  have hC10 := t_X2_spread (l := xl X) (G := xG X) hq9
  refine s_callV (pc := 14) (As := [.int x1, .int 9331]) (st := []) (nlt rfl) (q := (RX2, TX2, 11)) rfl rfl o7 cl_X2_spread wi_X2_spread wl_X2_spread km_X4_50 rfl rfl (nle rfl) (nle rfl) (nle rfl) dX4_stepsFrom_14 hC10 ?_
  have h11 := hC10.1 X
  have o12 := h11.ok o6
  have o13 := h11.ok o7
  show S0 X _ q8 17 [some (.ref (gh (xG X) + a0)), some (.int x1), some (.int x2), some (.int x3), some (.ref (gh (xG X) + q2.2))] [] _
  refine s_aload (pc := 17) dX4_stepsFrom_17 rfl ?_
  refine s_geto (pc := 19) F_2 2 rfl o13 dX4_stepsFrom_19 kf_X4_53 ?_
  refine s_rvB (fun r14 => ?_)
  refine s_iload_n (pc := 22) 1 dX4_stepsFrom_22 rfl rfl ?_
  refine s_grd (fun o15 => ?_)
  refine s_grd (fun i16 => ?_)
  refine s_sald (pc := 23) o15 i16 dX4_stepsFrom_23 ?_
  exact s_iret rfl dX4_stepsFrom_24
noncomputable def f_X7_cutTokens (M : Mem) (a0 : Nat) : Option Mem :=
  Option.bind (loopO (σ := Mem × Int32 × Int32) (ρ := Mem × Int32) (fun s1 => grd (okO s1.1 7 a0) (if (mI s1.1 a0 4) ≤ s1.2.2 then (some (.inr (s1.1, s1.2.1))) else (if 400 ≤ s1.2.1 then (some (.inr (s1.1, s1.2.1))) else (Option.bind (f_X7_kindAt s1.1 a0 s1.2.2) (fun q10 => bv (s1.2.2 + 1 : Int32) (fun x13 => Option.bind (loopO (σ := Int32) (ρ := Int32) (fun s14 => if q10 = 2 then (some (.inr s14)) else (if (mI s1.1 a0 4) ≤ s14 then (some (.inr s14)) else (Option.bind (f_X7_kindAt s1.1 a0 s14) (fun q22 => if q22 = q10 then (bv (s14 + 1 : Int32) (fun x25 => some (.inl x25))) else (some (.inr s14)))))) x13) (fun (x20 : Int32) => Option.bind (f_X7_byteAt s1.1 a0 s1.2.2) (fun q26 => bv (fun (s30 : Mem × Int32) => some (.inl (s30.1, s30.2, x20))) (fun j29 => if q26 = 32 then (j29 (s1.1, s1.2.1)) else (Option.bind (mR s1.1 a0 1) (fun r34 => Option.bind (f_X7_tokenOf s1.1 a0 q10 s1.2.2 x20) (fun q35 => grd (okO s1.1 14 r34) (grd (vp_in s1.2.1 (mL s1.1 r34)) (bv (wI s1.1 r34 s1.2.1.toNatClampNeg q35) (fun M40 => Option.bind (mR M40 a0 2) (fun r44 => grd (okO M40 14 r44) (grd (vp_in s1.2.1 (mL M40 r44)) (bv (wI M40 r44 s1.2.1.toNatClampNeg s1.2.2) (fun M47 => bv (s1.2.1 + 1 : Int32) (fun x51 => j29 (M47, x51))))))))))))))))))))) (M, 0, 0)) (fun (x7 : Mem × Int32) => grd (okO x7.1 7 a0) (Option.bind (mR x7.1 a0 1) (fun r53 => grd (okO x7.1 14 r53) (grd (vp_in x7.2 (mL x7.1 r53)) (bv (wI x7.1 r53 x7.2.toNatClampNeg 256) (fun M56 => Option.bind (mR M56 a0 2) (fun r60 => grd (okO M56 14 r60) (grd (vp_in x7.2 (mL M56 r60)) (bv (wI M56 r60 x7.2.toNatClampNeg (mI M56 a0 4)) (fun M63 => some M63))))))))))
abbrev Y_X7_cutTokens : Sta := (RX7, "cutTokens", cX7_cutTokens, 5, none, 7)
set_option maxRecDepth 100000 in
set_option maxHeartbeats 8000000 in
theorem t_X7_cutTokens {l : Launch} {G : Gh} {M : Mem} {a0 : Nat} {q : Mem} (h : f_X7_cutTokens M a0 = some q) : Ctr l G yX7_cutTokens Y_X7_cutTokens M [.ref (gh G + a0)] q (none) := by
  refine Ctr.of (Y := Y_X7_cutTokens) (L := [some (.ref (gh G + a0)), none, none, none, none]) (t := Option.bind (f_X7_cutTokens M a0) (fun q => some (q, (none : Option Value)))) (by decide) rfl rfl (nle rfl) (Lof_in 4 _ rfl) (fun X hG hl => ?_) (by rw [h]; rfl)
  subst hG
  subst hl
  unfold f_X7_cutTokens
  refine s_iconst (pc := 0) 0 dX7_cutTokens_0 kc_0 ?_
  refine s_istore_n (pc := 1) 1 dX7_cutTokens_1 rfl (nlt rfl) rfl (L' := [some (.ref (gh (xG X) + a0)), some (.int 0), none, none, none]) rfl ?_
  refine s_iconst (pc := 2) 0 dX7_cutTokens_2 kc_0 ?_
  refine s_istore_n (pc := 3) 2 dX7_cutTokens_3 rfl (nlt rfl) rfl (L' := [some (.ref (gh (xG X) + a0)), some (.int 0), some (.int 0), none, none]) rfl ?_
  refine s_drop (L' := [some (.ref (gh (xG X) + a0)), some (.int 0), some (.int 0), none, none]) ?_ (And.intro rfl (And.intro rfl (And.intro rfl trivial)))
  refine s_loop1 M (fun s1 : Mem × Int32 × Int32 => s1.1) (fun s1 : Mem × Int32 × Int32 => [some (.ref (gh (xG X) + a0)), some (.int s1.2.1), some (.int s1.2.2), none, none]) (fun x7 : Mem × Int32 => x7.1) 100 (fun x7 : Mem × Int32 => [some (.ref (gh (xG X) + a0)), some (.int x7.2), none, none, none]) (fun x7 hx8 => ?_) (fun T3 R5 hT4 hR6 s1 hs2 => ?_) (M, 0, 0) Le.rf
  · show S0 X _ x7.1 100 [some (.ref (gh (xG X) + a0)), some (.int x7.2), none, none, none] [] _
    refine s_aload_n (pc := 100) 0 dX7_cutTokens_100 rfl rfl ?_
    refine s_grd (fun o52 => ?_)
    refine s_geto (pc := 101) F_7 1 rfl o52 dX7_cutTokens_101 kf_X7_15 ?_
    refine s_rvB (fun r53 => ?_)
    refine s_iload_n (pc := 104) 1 dX7_cutTokens_104 rfl rfl ?_
    refine s_sipush (pc := 105) 256 dX7_cutTokens_105 ks_256 ?_
    refine s_grd (fun o54 => ?_)
    refine s_grd (fun i55 => ?_)
    refine s_iast (pc := 108) o54 i55 dX7_cutTokens_108 (fun M56 hM57 => ?_)
    have h58 := le_wI hM57
    have o59 := h58.ok o52
    refine s_aload_n (pc := 109) 0 dX7_cutTokens_109 rfl rfl ?_
    refine s_geto (pc := 110) F_7 2 rfl o59 dX7_cutTokens_110 kf_X7_18 ?_
    refine s_rvB (fun r60 => ?_)
    refine s_iload_n (pc := 113) 1 dX7_cutTokens_113 rfl rfl ?_
    refine s_aload_n (pc := 114) 0 dX7_cutTokens_114 rfl rfl ?_
    refine s_geti (pc := 115) F_7 4 rfl o59 dX7_cutTokens_115 kf_X7_34 ?_
    refine s_grd (fun o61 => ?_)
    refine s_grd (fun i62 => ?_)
    refine s_iast (pc := 118) o61 i62 dX7_cutTokens_118 (fun M63 hM64 => ?_)
    have h65 := le_wI hM64
    have o66 := h65.ok o59
    exact s_vret rfl dX7_cutTokens_119
  · show S0 X _ s1.1 4 [some (.ref (gh (xG X) + a0)), some (.int s1.2.1), some (.int s1.2.2), none, none] [] _
    refine s_iload_n (pc := 4) 2 dX7_cutTokens_4 rfl rfl ?_
    refine s_aload_n (pc := 5) 0 dX7_cutTokens_5 rfl rfl ?_
    refine s_grd (fun o9 => ?_)
    refine s_geti (pc := 6) F_7 4 rfl o9 dX7_cutTokens_6 kf_X7_34 ?_
    refine s_icge (pc := 9) 100 dX7_cutTokens_9 rfl ?_ ?_
    · exact s_drop (hR6 (s1.1, s1.2.1) hs2) (And.intro rfl (And.intro rfl trivial))
    · refine s_iload_n (pc := 12) 1 dX7_cutTokens_12 rfl rfl ?_
      refine s_sipush (pc := 13) 400 dX7_cutTokens_13 ks_400 ?_
      refine s_icge (pc := 16) 100 dX7_cutTokens_16 rfl ?_ ?_
      · exact s_drop (hR6 (s1.1, s1.2.1) hs2) (And.intro rfl (And.intro rfl trivial))
      · refine s_aload_n (pc := 19) 0 dX7_cutTokens_19 rfl rfl ?_
        refine s_iload_n (pc := 20) 2 dX7_cutTokens_20 rfl rfl ?_
        refine s_bind (fun q10 hq11 => ?_)
        have hC12 := t_X7_kindAt (l := xl X) (G := xG X) hq11
        refine s_callV (pc := 21) (As := [.int s1.2.2]) (st := []) (nlt rfl) (q := (RX7, TX7, 10)) rfl rfl o9 cl_X7_kindAt wi_X7_kindAt wl_X7_kindAt km_X7_82 rfl rfl (nle rfl) (nle rfl) (nle rfl) dX7_cutTokens_21 hC12 ?_
        show S0 X _ s1.1 24 [some (.ref (gh (xG X) + a0)), some (.int s1.2.1), some (.int s1.2.2), none, none] [.int q10] _
        refine s_istore_n (pc := 24) 3 dX7_cutTokens_24 rfl (nlt rfl) rfl (L' := [some (.ref (gh (xG X) + a0)), some (.int s1.2.1), some (.int s1.2.2), some (.int q10), none]) rfl ?_
        refine s_iload_n (pc := 25) 2 dX7_cutTokens_25 rfl rfl ?_
        refine s_iconst (pc := 26) 1 dX7_cutTokens_26 kc_1 ?_
        refine s_iadd (pc := 27) dX7_cutTokens_27 ?_
        refine s_istore (pc := 28) dX7_cutTokens_28 (nlt rfl) rfl (L' := [some (.ref (gh (xG X) + a0)), some (.int s1.2.1), some (.int s1.2.2), some (.int q10), some (.int (s1.2.2 + 1))]) rfl ?_
        refine s_bv (fun x13 : Int32 => [some (.ref (gh (xG X) + a0)), some (.int s1.2.1), some (.int s1.2.2), some (.int q10), some (.int x13)]) (fun x13 => ?_) rfl
        refine s_drop (L' := [some (.ref (gh (xG X) + a0)), some (.int s1.2.1), some (.int s1.2.2), some (.int q10), some (.int x13)]) ?_ (And.intro rfl (And.intro rfl (And.intro rfl (And.intro rfl (And.intro rfl trivial)))))
        refine s_loop1 s1.1 (fun s14 : Int32 => s1.1) (fun s14 : Int32 => [some (.ref (gh (xG X) + a0)), some (.int s1.2.1), some (.int s1.2.2), some (.int q10), some (.int s14)]) (fun x20 : Int32 => s1.1) 60 (fun x20 : Int32 => [some (.ref (gh (xG X) + a0)), some (.int s1.2.1), some (.int s1.2.2), some (.int q10), some (.int x20)]) (fun x20 hx21 => ?_) (fun T16 R18 hT17 hR19 s14 hs15 => ?_) x13 Le.rf
        · show S0 X _ s1.1 60 [some (.ref (gh (xG X) + a0)), some (.int s1.2.1), some (.int s1.2.2), some (.int q10), some (.int x20)] [] _
          refine s_aload_n (pc := 60) 0 dX7_cutTokens_60 rfl rfl ?_
          refine s_iload_n (pc := 61) 2 dX7_cutTokens_61 rfl rfl ?_
          refine s_bind (fun q26 hq27 => ?_)
          have hC28 := t_X7_byteAt (l := xl X) (G := xG X) hq27
          refine s_callV (pc := 62) (As := [.int s1.2.2]) (st := []) (nlt rfl) (q := (RX7, TX7, 10)) rfl rfl o9 cl_X7_byteAt wi_X7_byteAt wl_X7_byteAt km_X7_41 rfl rfl (nle rfl) (nle rfl) (nle rfl) dX7_cutTokens_62 hC28 ?_
          show S0 X _ s1.1 65 [some (.ref (gh (xG X) + a0)), some (.int s1.2.1), some (.int s1.2.2), some (.int q10), some (.int x20)] [.int q26] _
          refine s_bipush (pc := 65) 32 dX7_cutTokens_65 kb_32 ?_
          refine s_join s1.1 (fun s30 : Mem × Int32 => s30.1) 94 (fun s30 : Mem × Int32 => [some (.ref (gh (xG X) + a0)), some (.int s30.2), none, none, some (.int x20)]) (fun s30 : Mem × Int32 => []) (fun s30 hs31 => ?_) (fun j29 hj32 => ?_)
          · show S0 X _ s30.1 94 [some (.ref (gh (xG X) + a0)), some (.int s30.2), none, none, some (.int x20)] [] _
            have o33 := hs31.ok o9
            refine s_iload (pc := 94) dX7_cutTokens_94 rfl ?_
            refine s_istore_n (pc := 96) 2 dX7_cutTokens_96 rfl (nlt rfl) rfl (L' := [some (.ref (gh (xG X) + a0)), some (.int s30.2), some (.int x20), none, some (.int x20)]) rfl ?_
            refine s_goto (pc := 97) 4 dX7_cutTokens_97 rfl ?_
            exact s_drop (hT4 (s30.1, s30.2, x20) (hs2.tr hs31)) (And.intro rfl (And.intro rfl (And.intro rfl trivial)))
          · refine s_iceq (pc := 67) 94 dX7_cutTokens_67 rfl ?_ ?_
            · exact s_drop (hj32 (s1.1, s1.2.1) Le.rf) (And.intro rfl (And.intro rfl (And.intro rfl trivial)))
            · refine s_aload_n (pc := 70) 0 dX7_cutTokens_70 rfl rfl ?_
              refine s_geto (pc := 71) F_7 1 rfl o9 dX7_cutTokens_71 kf_X7_15 ?_
              refine s_rvB (fun r34 => ?_)
              refine s_iload_n (pc := 74) 1 dX7_cutTokens_74 rfl rfl ?_
              refine s_aload_n (pc := 75) 0 dX7_cutTokens_75 rfl rfl ?_
              refine s_iload_n (pc := 76) 3 dX7_cutTokens_76 rfl rfl ?_
              refine s_iload_n (pc := 77) 2 dX7_cutTokens_77 rfl rfl ?_
              refine s_iload (pc := 78) dX7_cutTokens_78 rfl ?_
              refine s_bind (fun q35 hq36 => ?_)
              have hC37 := t_X7_tokenOf (l := xl X) (G := xG X) hq36
              refine s_callV (pc := 80) (As := [.int q10, .int s1.2.2, .int x20]) (st := [.int s1.2.1, .ref (gh (xG X) + r34)]) (nlt rfl) (q := (RX7, TX7, 10)) rfl rfl o9 cl_X7_tokenOf wi_X7_tokenOf wl_X7_tokenOf km_X7_85 rfl rfl (nle rfl) (nle rfl) (nle rfl) dX7_cutTokens_80 hC37 ?_
              show S0 X _ s1.1 83 [some (.ref (gh (xG X) + a0)), some (.int s1.2.1), some (.int s1.2.2), some (.int q10), some (.int x20)] [.int q35, .int s1.2.1, .ref (gh (xG X) + r34)] _
              refine s_grd (fun o38 => ?_)
              refine s_grd (fun i39 => ?_)
              refine s_iast (pc := 83) o38 i39 dX7_cutTokens_83 (fun M40 hM41 => ?_)
              have h42 := le_wI hM41
              have o43 := h42.ok o9
              refine s_aload_n (pc := 84) 0 dX7_cutTokens_84 rfl rfl ?_
              refine s_geto (pc := 85) F_7 2 rfl o43 dX7_cutTokens_85 kf_X7_18 ?_
              refine s_rvB (fun r44 => ?_)
              refine s_iload_n (pc := 88) 1 dX7_cutTokens_88 rfl rfl ?_
              refine s_iload_n (pc := 89) 2 dX7_cutTokens_89 rfl rfl ?_
              refine s_grd (fun o45 => ?_)
              refine s_grd (fun i46 => ?_)
              refine s_iast (pc := 90) o45 i46 dX7_cutTokens_90 (fun M47 hM48 => ?_)
              have h49 := le_wI hM48
              have o50 := h49.ok o43
              refine s_iinc (pc := 91) dX7_cutTokens_91 rfl (v := s1.2.1 + 1) (congrArg (fun z : Int32 => s1.2.1 + z) kc_1) (nlt rfl) rfl (L' := [some (.ref (gh (xG X) + a0)), some (.int (s1.2.1 + 1)), some (.int s1.2.2), some (.int q10), some (.int x20)]) rfl ?_
              refine s_bv (fun x51 : Int32 => [some (.ref (gh (xG X) + a0)), some (.int x51), some (.int s1.2.2), some (.int q10), some (.int x20)]) (fun x51 => ?_) rfl
              exact s_drop (hj32 (M47, x51) (h42.tr h49)) (And.intro rfl (And.intro rfl (And.intro rfl trivial)))
        · show S0 X _ s1.1 30 [some (.ref (gh (xG X) + a0)), some (.int s1.2.1), some (.int s1.2.2), some (.int q10), some (.int s14)] [] _
          refine s_iload_n (pc := 30) 3 dX7_cutTokens_30 rfl rfl ?_
          refine s_iconst (pc := 31) 2 dX7_cutTokens_31 kc_2 ?_
          refine s_iceq (pc := 32) 60 dX7_cutTokens_32 rfl ?_ ?_
          · exact s_drop (hR19 s14 Le.rf) (And.intro rfl (And.intro rfl (And.intro rfl (And.intro rfl (And.intro rfl trivial)))))
          · refine s_iload (pc := 35) dX7_cutTokens_35 rfl ?_
            refine s_aload_n (pc := 37) 0 dX7_cutTokens_37 rfl rfl ?_
            refine s_geti (pc := 38) F_7 4 rfl o9 dX7_cutTokens_38 kf_X7_34 ?_
            refine s_icge (pc := 41) 60 dX7_cutTokens_41 rfl ?_ ?_
            · exact s_drop (hR19 s14 Le.rf) (And.intro rfl (And.intro rfl (And.intro rfl (And.intro rfl (And.intro rfl trivial)))))
            · refine s_aload_n (pc := 44) 0 dX7_cutTokens_44 rfl rfl ?_
              refine s_iload (pc := 45) dX7_cutTokens_45 rfl ?_
              refine s_bind (fun q22 hq23 => ?_)
              have hC24 := t_X7_kindAt (l := xl X) (G := xG X) hq23
              refine s_callV (pc := 47) (As := [.int s14]) (st := []) (nlt rfl) (q := (RX7, TX7, 10)) rfl rfl o9 cl_X7_kindAt wi_X7_kindAt wl_X7_kindAt km_X7_82 rfl rfl (nle rfl) (nle rfl) (nle rfl) dX7_cutTokens_47 hC24 ?_
              show S0 X _ s1.1 50 [some (.ref (gh (xG X) + a0)), some (.int s1.2.1), some (.int s1.2.2), some (.int q10), some (.int s14)] [.int q22] _
              refine s_iload_n (pc := 50) 3 dX7_cutTokens_50 rfl rfl ?_
              refine s_icne (pc := 51) 60 dX7_cutTokens_51 rfl ?_ ?_
              · exact s_drop (hR19 s14 Le.rf) (And.intro rfl (And.intro rfl (And.intro rfl (And.intro rfl (And.intro rfl trivial)))))
              · refine s_iinc (pc := 54) dX7_cutTokens_54 rfl (v := s14 + 1) (congrArg (fun z : Int32 => s14 + z) kc_1) (nlt rfl) rfl (L' := [some (.ref (gh (xG X) + a0)), some (.int s1.2.1), some (.int s1.2.2), some (.int q10), some (.int (s14 + 1))]) rfl ?_
                refine s_bv (fun x25 : Int32 => [some (.ref (gh (xG X) + a0)), some (.int s1.2.1), some (.int s1.2.2), some (.int q10), some (.int x25)]) (fun x25 => ?_) rfl
                refine s_goto (pc := 57) 30 dX7_cutTokens_57 rfl ?_
                exact s_drop (hT17 x25 Le.rf) (And.intro rfl (And.intro rfl (And.intro rfl (And.intro rfl (And.intro rfl trivial)))))
noncomputable def f_X11_at (M : Mem) (a0 : Nat) (x1 : Int32) (x2 : Int32) : Option (Mem × Int32) :=
  grd (okO M 11 a0) (Option.bind (mR M a0 0) (fun r2 => grd (okO M 10 r2) (Option.bind (f_X10_hasHouse M r2 x1) (fun q4 => if q4 = 0 then (some (M, (-1))) else (Option.bind (mR M a0 0) (fun r7 => grd (okO M 10 r7) (Option.bind (mR M r7 3) (fun r9 => grd (okO M 14 r9) (grd (vp_in x1 (mL M r9)) (bv (mI M r9 x1.toNatClampNeg : Int32) (fun x12 => swO x2 (swC 0 [(64, some (M, x12)), (66, Option.bind (mR M a0 0) (fun r13 => grd (okO M 10 r13) (Option.bind (mR M r13 4) (fun r15 => grd (okO M 14 r15) (grd (vp_in x1 (mL M r15)) (some (M, mI M r15 x1.toNatClampNeg))))))), (76, Option.bind (mR M a0 0) (fun r18 => grd (okO M 10 r18) (Option.bind (mR M r18 5) (fun r20 => grd (okO M 14 r20) (grd (vp_in x1 (mL M r20)) (Option.bind (f_X6_numberOf (mI M r20 x1.toNatClampNeg)) (fun q23 => some (M, q23)))))))), (89, Option.bind (mR M a0 0) (fun r26 => grd (okO M 10 r26) (Option.bind (f_X10_daughtersOf M r26 x1) (fun q28 => some (M, q28))))), (98, if x12 = (-1) then (some (M, (-1))) else (Option.bind (mR M a0 6) (fun r31 => Option.bind (mR M a0 0) (fun r32 => grd (okO M 10 r32) (Option.bind (mR M r32 5) (fun r34 => grd (okO M 14 r34) (grd (vp_in x12 (mL M r34)) (Option.bind (mR M a0 0) (fun r37 => grd (okO M 10 r37) (Option.bind (mR M r37 5) (fun r39 => grd (okO M 14 r39) (grd (vp_in x1 (mL M r39)) (Option.bind (mR M a0 0) (fun r42 => grd (okO M 10 r42) (Option.bind (mR M r42 4) (fun r44 => grd (okO M 14 r44) (grd (vp_in x1 (mL M r44)) (grd (okO M 4 r31) (Option.bind (f_X4_stepsFrom M r31 (mI M r34 x12.toNatClampNeg) (mI M r39 x1.toNatClampNeg) (mI M r44 x1.toNatClampNeg)) (fun q48 => some (q48.1, q48.2))))))))))))))))))))), (142, Option.bind (mR M a0 0) (fun r53 => grd (okO M 10 r53) (Option.bind (f_X10_changedBack M r53 x1) (fun q55 => some (M, q55)))))]) (some (M, (-1))))))))))))))
abbrev Y_X11_at : Sta := (RX11, "at", cX11_at, 4, (some .int), 8)
set_option maxRecDepth 100000 in
set_option maxHeartbeats 8000000 in
theorem t_X11_at {l : Launch} {G : Gh} {M : Mem} {a0 : Nat} {x1 : Int32} {x2 : Int32} {q : Mem × Int32} (h : f_X11_at M a0 x1 x2 = some q) : Ctr l G yX11_at Y_X11_at M [.ref (gh G + a0), .int x1, .int x2] q.1 (some (.int q.2)) := by
  refine Ctr.of (Y := Y_X11_at) (L := [some (.ref (gh G + a0)), some (.int x1), some (.int x2), none]) (t := Option.bind (f_X11_at M a0 x1 x2) (fun q => some (q.1, some (.int q.2)))) (by decide) rfl rfl (nle rfl) (Lof_in 1 _ rfl) (fun X hG hl => ?_) (by rw [h]; rfl)
  subst hG
  subst hl
  unfold f_X11_at
  refine s_aload_n (pc := 0) 0 dX11_at_0 rfl rfl ?_
  refine s_grd (fun o1 => ?_)
  refine s_geto (pc := 1) F_11 0 rfl o1 dX11_at_1 kf_X11_10 ?_
  refine s_rvB (fun r2 => ?_)
  refine s_iload_n (pc := 4) 1 dX11_at_4 rfl rfl ?_
  refine s_grd (fun o3 => ?_)
  refine s_bind (fun q4 hq5 => ?_)
  have hC6 := t_X10_hasHouse (l := xl X) (G := xG X) hq5
  refine s_callV (pc := 5) (As := [.int x1]) (st := []) (nlt rfl) (q := (RX10, TX10, 15)) rfl rfl o3 cl_X10_hasHouse wi_X10_hasHouse wl_X10_hasHouse km_X11_119 rfl rfl (nle rfl) (nle rfl) (nle rfl) dX11_at_5 hC6 ?_
  show S0 X _ M 8 [some (.ref (gh (xG X) + a0)), some (.int x1), some (.int x2), none] [.int q4] _
  refine s_ifne (pc := 8) 13 dX11_at_8 rfl ?_ ?_
  · refine s_aload_n (pc := 13) 0 dX11_at_13 rfl rfl ?_
    refine s_geto (pc := 14) F_11 0 rfl o1 dX11_at_14 kf_X11_10 ?_
    refine s_rvB (fun r7 => ?_)
    refine s_grd (fun o8 => ?_)
    refine s_getoN (pc := 17) F_10 3 rfl o8 dX11_at_17 (List.mem_of_getElem? (i := 4) rfl) ?_
    refine s_rvB (fun r9 => ?_)
    refine s_iload_n (pc := 20) 1 dX11_at_20 rfl rfl ?_
    refine s_grd (fun o10 => ?_)
    refine s_grd (fun i11 => ?_)
    refine s_iald (pc := 21) o10 i11 dX11_at_21 ?_
    refine s_istore_n (pc := 22) 3 dX11_at_22 rfl (nlt rfl) rfl (L' := [some (.ref (gh (xG X) + a0)), some (.int x1), some (.int x2), some (.int (mI M r9 x1.toNatClampNeg))]) rfl ?_
    refine s_bv (fun x12 : Int32 => [some (.ref (gh (xG X) + a0)), some (.int x1), some (.int x2), some (.int x12)]) (fun x12 => ?_) rfl
    refine s_iload_n (pc := 23) 2 dX11_at_23 rfl rfl ?_
    refine s_tsw (pc := 24) _ 151 dX11_at_24 rfl rfl (And.intro (by decide) (And.intro (by simp only [List.length_cons, List.length_nil]; decide) rfl)) ?_ ?_
    · refine (And.intro ?_ (And.intro ?_ (And.intro ?_ (And.intro ?_ (And.intro ?_ (And.intro ?_ trivial))))))
      · refine s_iload_n (pc := 64) 3 dX11_at_64 rfl rfl ?_
        exact s_iret rfl dX11_at_65
      · refine s_aload_n (pc := 66) 0 dX11_at_66 rfl rfl ?_
        refine s_geto (pc := 67) F_11 0 rfl o1 dX11_at_67 kf_X11_10 ?_
        refine s_rvB (fun r13 => ?_)
        refine s_grd (fun o14 => ?_)
        refine s_getoN (pc := 70) F_10 4 rfl o14 dX11_at_70 (List.mem_of_getElem? (i := 5) rfl) ?_
        refine s_rvB (fun r15 => ?_)
        refine s_iload_n (pc := 73) 1 dX11_at_73 rfl rfl ?_
        refine s_grd (fun o16 => ?_)
        refine s_grd (fun i17 => ?_)
        refine s_iald (pc := 74) o16 i17 dX11_at_74 ?_
        exact s_iret rfl dX11_at_75
      · refine s_aload_n (pc := 76) 0 dX11_at_76 rfl rfl ?_
        refine s_geto (pc := 77) F_11 0 rfl o1 dX11_at_77 kf_X11_10 ?_
        refine s_rvB (fun r18 => ?_)
        refine s_grd (fun o19 => ?_)
        refine s_getoN (pc := 80) F_10 5 rfl o19 dX11_at_80 (List.mem_of_getElem? (i := 7) rfl) ?_
        refine s_rvB (fun r20 => ?_)
        refine s_iload_n (pc := 83) 1 dX11_at_83 rfl rfl ?_
        refine s_grd (fun o21 => ?_)
        refine s_grd (fun i22 => ?_)
        refine s_iald (pc := 84) o21 i22 dX11_at_84 ?_
        refine s_bind (fun q23 hq24 => ?_)
        have hC25 := t_X6_numberOf (l := xl X) (G := xG X) (M := M) hq24
        refine s_callS (pc := 85) (As := [.int (mI M r20 x1.toNatClampNeg)]) (st := []) cl_X6_numberOf wt_X6_numberOf km_X11_146 rfl rfl (nle rfl) (nle rfl) (nle rfl) dX11_at_85 hC25 ?_
        show S0 X _ M 88 [some (.ref (gh (xG X) + a0)), some (.int x1), some (.int x2), some (.int x12)] [.int q23] _
        exact s_iret rfl dX11_at_88
      · refine s_aload_n (pc := 89) 0 dX11_at_89 rfl rfl ?_
        refine s_geto (pc := 90) F_11 0 rfl o1 dX11_at_90 kf_X11_10 ?_
        refine s_rvB (fun r26 => ?_)
        refine s_iload_n (pc := 93) 1 dX11_at_93 rfl rfl ?_
        refine s_grd (fun o27 => ?_)
        refine s_bind (fun q28 hq29 => ?_)
        have hC30 := t_X10_daughtersOf (l := xl X) (G := xG X) hq29
        refine s_callV (pc := 94) (As := [.int x1]) (st := []) (nlt rfl) (q := (RX10, TX10, 15)) rfl rfl o27 cl_X10_daughtersOf wi_X10_daughtersOf wl_X10_daughtersOf km_X11_152 rfl rfl (nle rfl) (nle rfl) (nle rfl) dX11_at_94 hC30 ?_
        show S0 X _ M 97 [some (.ref (gh (xG X) + a0)), some (.int x1), some (.int x2), some (.int x12)] [.int q28] _
        exact s_iret rfl dX11_at_97
      · refine s_iload_n (pc := 98) 3 dX11_at_98 rfl rfl ?_
        refine s_iconst (pc := 99) (-1) dX11_at_99 kc_m1 ?_
        refine s_icne (pc := 100) 107 dX11_at_100 rfl ?_ ?_
        · refine s_aload_n (pc := 107) 0 dX11_at_107 rfl rfl ?_
          refine s_geto (pc := 108) F_11 6 rfl o1 dX11_at_108 kf_X11_55 ?_
          refine s_rvB (fun r31 => ?_)
          refine s_aload_n (pc := 111) 0 dX11_at_111 rfl rfl ?_
          refine s_geto (pc := 112) F_11 0 rfl o1 dX11_at_112 kf_X11_10 ?_
          refine s_rvB (fun r32 => ?_)
          refine s_grd (fun o33 => ?_)
          refine s_getoN (pc := 115) F_10 5 rfl o33 dX11_at_115 (List.mem_of_getElem? (i := 7) rfl) ?_
          refine s_rvB (fun r34 => ?_)
          refine s_iload_n (pc := 118) 3 dX11_at_118 rfl rfl ?_
          refine s_grd (fun o35 => ?_)
          refine s_grd (fun i36 => ?_)
          refine s_iald (pc := 119) o35 i36 dX11_at_119 ?_
          refine s_aload_n (pc := 120) 0 dX11_at_120 rfl rfl ?_
          refine s_geto (pc := 121) F_11 0 rfl o1 dX11_at_121 kf_X11_10 ?_
          refine s_rvB (fun r37 => ?_)
          refine s_grd (fun o38 => ?_)
          refine s_getoN (pc := 124) F_10 5 rfl o38 dX11_at_124 (List.mem_of_getElem? (i := 7) rfl) ?_
          refine s_rvB (fun r39 => ?_)
          refine s_iload_n (pc := 127) 1 dX11_at_127 rfl rfl ?_
          refine s_grd (fun o40 => ?_)
          refine s_grd (fun i41 => ?_)
          refine s_iald (pc := 128) o40 i41 dX11_at_128 ?_
          refine s_aload_n (pc := 129) 0 dX11_at_129 rfl rfl ?_
          refine s_geto (pc := 130) F_11 0 rfl o1 dX11_at_130 kf_X11_10 ?_
          refine s_rvB (fun r42 => ?_)
          refine s_grd (fun o43 => ?_)
          refine s_getoN (pc := 133) F_10 4 rfl o43 dX11_at_133 (List.mem_of_getElem? (i := 5) rfl) ?_
          refine s_rvB (fun r44 => ?_)
          refine s_iload_n (pc := 136) 1 dX11_at_136 rfl rfl ?_
          refine s_grd (fun o45 => ?_)
          refine s_grd (fun i46 => ?_)
          refine s_iald (pc := 137) o45 i46 dX11_at_137 ?_
          refine s_grd (fun o47 => ?_)
          refine s_bind (fun q48 hq49 => ?_)
          have hC50 := t_X4_stepsFrom (l := xl X) (G := xG X) hq49
          refine s_callV (pc := 138) (As := [.int (mI M r34 x12.toNatClampNeg), .int (mI M r39 x1.toNatClampNeg), .int (mI M r44 x1.toNatClampNeg)]) (st := []) (nlt rfl) (q := (RX4, TX4, 10)) rfl rfl o47 cl_X4_stepsFrom wi_X4_stepsFrom wl_X4_stepsFrom km_X11_155 rfl rfl (nle rfl) (nle rfl) (nle rfl) dX11_at_138 hC50 ?_
          have h51 := hC50.1 X
          have o52 := h51.ok o1
          show S0 X _ q48.1 141 [some (.ref (gh (xG X) + a0)), some (.int x1), some (.int x2), some (.int x12)] [.int q48.2] _
          exact s_iret rfl dX11_at_141
        · refine s_iconst (pc := 103) (-1) dX11_at_103 kc_m1 ?_
          refine s_goto (pc := 104) 141 dX11_at_104 rfl ?_
          exact s_iret rfl dX11_at_141
      · refine s_aload_n (pc := 142) 0 dX11_at_142 rfl rfl ?_
        refine s_geto (pc := 143) F_11 0 rfl o1 dX11_at_143 kf_X11_10 ?_
        refine s_rvB (fun r53 => ?_)
        refine s_iload_n (pc := 146) 1 dX11_at_146 rfl rfl ?_
        refine s_grd (fun o54 => ?_)
        refine s_bind (fun q55 hq56 => ?_)
        have hC57 := t_X10_changedBack (l := xl X) (G := xG X) hq56
        refine s_callV (pc := 147) (As := [.int x1]) (st := []) (nlt rfl) (q := (RX10, TX10, 15)) rfl rfl o54 cl_X10_changedBack wi_X10_changedBack wl_X10_changedBack km_X11_158 rfl rfl (nle rfl) (nle rfl) (nle rfl) dX11_at_147 hC57 ?_
        show S0 X _ M 150 [some (.ref (gh (xG X) + a0)), some (.int x1), some (.int x2), some (.int x12)] [.int q55] _
        exact s_iret rfl dX11_at_150
    · refine s_iconst (pc := 151) (-1) dX11_at_151 kc_m1 ?_
      exact s_iret rfl dX11_at_152
  · refine s_iconst (pc := 11) (-1) dX11_at_11 kc_m1 ?_
    exact s_iret rfl dX11_at_12
noncomputable def f_X11_first (M : Mem) (a0 : Nat) (x1 : Int32) (x2 : Int32) : Option (Mem × Int32) :=
  grd (okO M 11 a0) (Option.bind (mR M a0 0) (fun r2 => grd (okO M 10 r2) (Option.bind (f_X10_toldOf M r2 x1) (fun q4 => if q4 = 0 then (some (M, (-1))) else (Option.bind (mR M a0 6) (fun r7 => grd (okO M 4 r7) (Option.bind (f_X4_seekFirst M r7 q4) (fun q9 => Option.bind (mR q9 a0 6) (fun r14 => grd (okO q9 4 r14) (if (mI q9 r14 7) = (-1) then (some (q9, (-1))) else (swO x2 (swC 0 [(64, Option.bind (mR q9 a0 6) (fun r16 => grd (okO q9 4 r16) (some (q9, mI q9 r16 7)))), (72, Option.bind (mR q9 a0 6) (fun r18 => grd (okO q9 4 r18) (some (q9, mI q9 r18 8)))), (80, Option.bind (mR q9 a0 6) (fun r20 => grd (okO q9 4 r20) (Option.bind (f_X6_numberOf (mI q9 r20 9)) (fun q22 => some (q9, q22)))))]) (some (q9, (-1))))))))))))))
abbrev Y_X11_first : Sta := (RX11, "first", cX11_first, 4, (some .int), 8)
set_option maxRecDepth 100000 in
set_option maxHeartbeats 8000000 in
theorem t_X11_first {l : Launch} {G : Gh} {M : Mem} {a0 : Nat} {x1 : Int32} {x2 : Int32} {q : Mem × Int32} (h : f_X11_first M a0 x1 x2 = some q) : Ctr l G yX11_first Y_X11_first M [.ref (gh G + a0), .int x1, .int x2] q.1 (some (.int q.2)) := by
  refine Ctr.of (Y := Y_X11_first) (L := [some (.ref (gh G + a0)), some (.int x1), some (.int x2), none]) (t := Option.bind (f_X11_first M a0 x1 x2) (fun q => some (q.1, some (.int q.2)))) (by decide) rfl rfl (nle rfl) (Lof_in 1 _ rfl) (fun X hG hl => ?_) (by rw [h]; rfl)
  subst hG
  subst hl
  unfold f_X11_first
  refine s_aload_n (pc := 0) 0 dX11_first_0 rfl rfl ?_
  refine s_grd (fun o1 => ?_)
  refine s_geto (pc := 1) F_11 0 rfl o1 dX11_first_1 kf_X11_10 ?_
  refine s_rvB (fun r2 => ?_)
  refine s_iload_n (pc := 4) 1 dX11_first_4 rfl rfl ?_
  refine s_grd (fun o3 => ?_)
  refine s_bind (fun q4 hq5 => ?_)
  have hC6 := t_X10_toldOf (l := xl X) (G := xG X) hq5
  refine s_callV (pc := 5) (As := [.int x1]) (st := []) (nlt rfl) (q := (RX10, TX10, 15)) rfl rfl o3 cl_X10_toldOf wi_X10_toldOf wl_X10_toldOf km_X11_276 rfl rfl (nle rfl) (nle rfl) (nle rfl) dX11_first_5 hC6 ?_
  show S0 X _ M 8 [some (.ref (gh (xG X) + a0)), some (.int x1), some (.int x2), none] [.int q4] _
  refine s_istore_n (pc := 8) 3 dX11_first_8 rfl (nlt rfl) rfl (L' := [some (.ref (gh (xG X) + a0)), some (.int x1), some (.int x2), some (.int q4)]) rfl ?_
  refine s_iload_n (pc := 9) 3 dX11_first_9 rfl rfl ?_
  refine s_ifne (pc := 10) 15 dX11_first_10 rfl ?_ ?_
  · refine s_aload_n (pc := 15) 0 dX11_first_15 rfl rfl ?_
    refine s_geto (pc := 16) F_11 6 rfl o1 dX11_first_16 kf_X11_55 ?_
    refine s_rvB (fun r7 => ?_)
    refine s_iload_n (pc := 19) 3 dX11_first_19 rfl rfl ?_
    refine s_grd (fun o8 => ?_)
    refine s_bind (fun q9 hq10 => ?_)
    have hC11 := t_X4_seekFirst (l := xl X) (G := xG X) hq10
    refine s_callV (pc := 20) (As := [.int q4]) (st := []) (nlt rfl) (q := (RX4, TX4, 10)) rfl rfl o8 cl_X4_seekFirst wi_X4_seekFirst wl_X4_seekFirst km_X11_279 rfl rfl (nle rfl) (nle rfl) (nle rfl) dX11_first_20 hC11 ?_
    have h12 := hC11.1 X
    have o13 := h12.ok o1
    show S0 X _ q9 23 [some (.ref (gh (xG X) + a0)), some (.int x1), some (.int x2), some (.int q4)] [] _
    refine s_aload_n (pc := 23) 0 dX11_first_23 rfl rfl ?_
    refine s_geto (pc := 24) F_11 6 rfl o13 dX11_first_24 kf_X11_55 ?_
    refine s_rvB (fun r14 => ?_)
    refine s_grd (fun o15 => ?_)
    refine s_geti (pc := 27) F_4 7 rfl o15 dX11_first_27 kf_X11_282 ?_
    refine s_iconst (pc := 30) (-1) dX11_first_30 kc_m1 ?_
    refine s_icne (pc := 31) 36 dX11_first_31 rfl ?_ ?_
    · refine s_iload_n (pc := 36) 2 dX11_first_36 rfl rfl ?_
      refine s_tsw (pc := 37) _ 91 dX11_first_37 rfl rfl (And.intro (by decide) (And.intro (by simp only [List.length_cons, List.length_nil]; decide) rfl)) ?_ ?_
      · refine (And.intro ?_ (And.intro ?_ (And.intro ?_ trivial)))
        · refine s_aload_n (pc := 64) 0 dX11_first_64 rfl rfl ?_
          refine s_geto (pc := 65) F_11 6 rfl o13 dX11_first_65 kf_X11_55 ?_
          refine s_rvB (fun r16 => ?_)
          refine s_grd (fun o17 => ?_)
          refine s_geti (pc := 68) F_4 7 rfl o17 dX11_first_68 kf_X11_282 ?_
          exact s_iret rfl dX11_first_71
        · refine s_aload_n (pc := 72) 0 dX11_first_72 rfl rfl ?_
          refine s_geto (pc := 73) F_11 6 rfl o13 dX11_first_73 kf_X11_55 ?_
          refine s_rvB (fun r18 => ?_)
          refine s_grd (fun o19 => ?_)
          refine s_geti (pc := 76) F_4 8 rfl o19 dX11_first_76 kf_X11_285 ?_
          exact s_iret rfl dX11_first_79
        · refine s_aload_n (pc := 80) 0 dX11_first_80 rfl rfl ?_
          refine s_geto (pc := 81) F_11 6 rfl o13 dX11_first_81 kf_X11_55 ?_
          refine s_rvB (fun r20 => ?_)
          refine s_grd (fun o21 => ?_)
          refine s_geti (pc := 84) F_4 9 rfl o21 dX11_first_84 kf_X11_288 ?_
          refine s_bind (fun q22 hq23 => ?_)
          have hC24 := t_X6_numberOf (l := xl X) (G := xG X) (M := q9) hq23
          refine s_callS (pc := 87) (As := [.int (mI q9 r20 9)]) (st := []) cl_X6_numberOf wt_X6_numberOf km_X11_146 rfl rfl (nle rfl) (nle rfl) (nle rfl) dX11_first_87 hC24 ?_
          show S0 X _ q9 90 [some (.ref (gh (xG X) + a0)), some (.int x1), some (.int x2), some (.int q4)] [.int q22] _
          exact s_iret rfl dX11_first_90
      · refine s_iconst (pc := 91) (-1) dX11_first_91 kc_m1 ?_
        exact s_iret rfl dX11_first_92
    · refine s_iconst (pc := 34) (-1) dX11_first_34 kc_m1 ?_
      exact s_iret rfl dX11_first_35
  · refine s_iconst (pc := 13) (-1) dX11_first_13 kc_m1 ?_
    exact s_iret rfl dX11_first_14
noncomputable def f_X11_judge (M : Mem) (a0 : Nat) (x1 : Int32) : Option (Mem × Int32) :=
  grd (okO M 11 a0) (Option.bind (mR M a0 0) (fun r2 => grd (okO M 10 r2) (bv ((mI M r2 8) - 1 : Int32) (fun x4 => Option.bind (loopO (σ := Mem × Int32 × Int32 × Int32) (ρ := Mem × Int32 × Int32) (fun s5 => if s5.2.2.2 < 0 then (some (.inr (s5.1, s5.2.1, s5.2.2.1))) else (Option.bind (mR s5.1 a0 0) (fun r14 => grd (okO s5.1 10 r14) (Option.bind (mR s5.1 r14 3) (fun r16 => grd (okO s5.1 14 r16) (grd (vp_in s5.2.2.2 (mL s5.1 r16)) (bv (fun (s20 : Mem × Int32 × Int32) => bv (s5.2.2.2 + (-1) : Int32) (fun x24 => some (.inl (s20.1, s20.2.1, s20.2.2, x24)))) (fun j19 => if (mI s5.1 r16 s5.2.2.2.toNatClampNeg) = (-1) then (j19 (s5.1, s5.2.1, s5.2.2.1)) else (Option.bind (f_X11_keepsCustom s5.1 a0 s5.2.2.2) (fun q25 => if q25.2 = 0 then (bv (s5.2.2.1 + 1 : Int32) (fun x30 => j19 (q25.1, s5.2.2.2, x30))) else (j19 (q25.1, s5.2.1, s5.2.2.1)))))))))))) (M, (-1), 0, x4)) (fun (x12 : Mem × Int32 × Int32) => if x1 = 0 then (some (x12.1, x12.2.1)) else (if x1 = 1 then (some (x12.1, x12.2.2)) else (some (x12.1, (-1)))))))))
abbrev Y_X11_judge : Sta := (RX11, "judge", cX11_judge, 5, (some .int), 8)
set_option maxRecDepth 100000 in
set_option maxHeartbeats 8000000 in
theorem t_X11_judge {l : Launch} {G : Gh} {M : Mem} {a0 : Nat} {x1 : Int32} {q : Mem × Int32} (h : f_X11_judge M a0 x1 = some q) : Ctr l G yX11_judge Y_X11_judge M [.ref (gh G + a0), .int x1] q.1 (some (.int q.2)) := by
  refine Ctr.of (Y := Y_X11_judge) (L := [some (.ref (gh G + a0)), some (.int x1), none, none, none]) (t := Option.bind (f_X11_judge M a0 x1) (fun q => some (q.1, some (.int q.2)))) (by decide) rfl rfl (nle rfl) (Lof_in 3 _ rfl) (fun X hG hl => ?_) (by rw [h]; rfl)
  subst hG
  subst hl
  unfold f_X11_judge
  refine s_iconst (pc := 0) (-1) dX11_judge_0 kc_m1 ?_
  refine s_istore_n (pc := 1) 2 dX11_judge_1 rfl (nlt rfl) rfl (L' := [some (.ref (gh (xG X) + a0)), some (.int x1), some (.int (-1)), none, none]) rfl ?_
  refine s_iconst (pc := 2) 0 dX11_judge_2 kc_0 ?_
  refine s_istore_n (pc := 3) 3 dX11_judge_3 rfl (nlt rfl) rfl (L' := [some (.ref (gh (xG X) + a0)), some (.int x1), some (.int (-1)), some (.int 0), none]) rfl ?_
  refine s_aload_n (pc := 4) 0 dX11_judge_4 rfl rfl ?_
  refine s_grd (fun o1 => ?_)
  refine s_geto (pc := 5) F_11 0 rfl o1 dX11_judge_5 kf_X11_10 ?_
  refine s_rvB (fun r2 => ?_)
  refine s_grd (fun o3 => ?_)
  refine s_getiN (pc := 8) F_10 8 rfl o3 dX11_judge_8 (List.mem_of_getElem? (i := 9) rfl) ?_
  refine s_iconst (pc := 11) 1 dX11_judge_11 kc_1 ?_
  refine s_isub (pc := 12) dX11_judge_12 ?_
  refine s_istore (pc := 13) dX11_judge_13 (nlt rfl) rfl (L' := [some (.ref (gh (xG X) + a0)), some (.int x1), some (.int (-1)), some (.int 0), some (.int ((mI M r2 8) - 1))]) rfl ?_
  refine s_bv (fun x4 : Int32 => [some (.ref (gh (xG X) + a0)), some (.int x1), some (.int (-1)), some (.int 0), some (.int x4)]) (fun x4 => ?_) rfl
  refine s_drop (L' := [some (.ref (gh (xG X) + a0)), some (.int x1), some (.int (-1)), some (.int 0), some (.int x4)]) ?_ (And.intro rfl (And.intro rfl (And.intro rfl (And.intro rfl (And.intro rfl trivial)))))
  refine s_loop1 M (fun s5 : Mem × Int32 × Int32 × Int32 => s5.1) (fun s5 : Mem × Int32 × Int32 × Int32 => [some (.ref (gh (xG X) + a0)), some (.int x1), some (.int s5.2.1), some (.int s5.2.2.1), some (.int s5.2.2.2)]) (fun x12 : Mem × Int32 × Int32 => x12.1) 55 (fun x12 : Mem × Int32 × Int32 => [none, some (.int x1), some (.int x12.2.1), some (.int x12.2.2), none]) (fun x12 hx13 => ?_) (fun T7 R9 hT8 hR10 s5 hs6 => ?_) (M, (-1), 0, x4) Le.rf
  · show S0 X _ x12.1 55 [none, some (.int x1), some (.int x12.2.1), some (.int x12.2.2), none] [] _
    refine s_iload_n (pc := 55) 1 dX11_judge_55 rfl rfl ?_
    refine s_ifne (pc := 56) 61 dX11_judge_56 rfl ?_ ?_
    · refine s_iload_n (pc := 61) 1 dX11_judge_61 rfl rfl ?_
      refine s_iconst (pc := 62) 1 dX11_judge_62 kc_1 ?_
      refine s_icne (pc := 63) 70 dX11_judge_63 rfl ?_ ?_
      · refine s_iconst (pc := 70) (-1) dX11_judge_70 kc_m1 ?_
        exact s_iret rfl dX11_judge_71
      · refine s_iload_n (pc := 66) 3 dX11_judge_66 rfl rfl ?_
        refine s_goto (pc := 67) 71 dX11_judge_67 rfl ?_
        exact s_iret rfl dX11_judge_71
    · refine s_iload_n (pc := 59) 2 dX11_judge_59 rfl rfl ?_
      exact s_iret rfl dX11_judge_60
  · show S0 X _ s5.1 15 [some (.ref (gh (xG X) + a0)), some (.int x1), some (.int s5.2.1), some (.int s5.2.2.1), some (.int s5.2.2.2)] [] _
    have o11 := hs6.ok o1
    refine s_iload (pc := 15) dX11_judge_15 rfl ?_
    refine s_iflt (pc := 17) 55 dX11_judge_17 rfl ?_ ?_
    · exact s_drop (hR10 (s5.1, s5.2.1, s5.2.2.1) hs6) (And.intro rfl (And.intro rfl (And.intro rfl trivial)))
    · refine s_aload_n (pc := 20) 0 dX11_judge_20 rfl rfl ?_
      refine s_geto (pc := 21) F_11 0 rfl o11 dX11_judge_21 kf_X11_10 ?_
      refine s_rvB (fun r14 => ?_)
      refine s_grd (fun o15 => ?_)
      refine s_getoN (pc := 24) F_10 3 rfl o15 dX11_judge_24 (List.mem_of_getElem? (i := 4) rfl) ?_
      refine s_rvB (fun r16 => ?_)
      refine s_iload (pc := 27) dX11_judge_27 rfl ?_
      refine s_grd (fun o17 => ?_)
      refine s_grd (fun i18 => ?_)
      refine s_iald (pc := 29) o17 i18 dX11_judge_29 ?_
      refine s_iconst (pc := 30) (-1) dX11_judge_30 kc_m1 ?_
      refine s_join s5.1 (fun s20 : Mem × Int32 × Int32 => s20.1) 49 (fun s20 : Mem × Int32 × Int32 => [some (.ref (gh (xG X) + a0)), some (.int x1), some (.int s20.2.1), some (.int s20.2.2), some (.int s5.2.2.2)]) (fun s20 : Mem × Int32 × Int32 => []) (fun s20 hs21 => ?_) (fun j19 hj22 => ?_)
      · show S0 X _ s20.1 49 [some (.ref (gh (xG X) + a0)), some (.int x1), some (.int s20.2.1), some (.int s20.2.2), some (.int s5.2.2.2)] [] _
        have o23 := hs21.ok o11
        refine s_iinc (pc := 49) dX11_judge_49 rfl (v := s5.2.2.2 + (-1)) (congrArg (fun z : Int32 => s5.2.2.2 + z) kc_m1) (nlt rfl) rfl (L' := [some (.ref (gh (xG X) + a0)), some (.int x1), some (.int s20.2.1), some (.int s20.2.2), some (.int (s5.2.2.2 + (-1)))]) rfl ?_
        refine s_bv (fun x24 : Int32 => [some (.ref (gh (xG X) + a0)), some (.int x1), some (.int s20.2.1), some (.int s20.2.2), some (.int x24)]) (fun x24 => ?_) rfl
        refine s_goto (pc := 52) 15 dX11_judge_52 rfl ?_
        exact s_drop (hT8 (s20.1, s20.2.1, s20.2.2, x24) (hs6.tr hs21)) (And.intro rfl (And.intro rfl (And.intro rfl (And.intro rfl (And.intro rfl trivial)))))
      · refine s_iceq (pc := 31) 49 dX11_judge_31 rfl ?_ ?_
        · exact s_drop (hj22 (s5.1, s5.2.1, s5.2.2.1) Le.rf) (And.intro rfl (And.intro rfl (And.intro rfl (And.intro rfl (And.intro rfl trivial)))))
        · refine s_aload_n (pc := 34) 0 dX11_judge_34 rfl rfl ?_
          refine s_iload (pc := 35) dX11_judge_35 rfl ?_
          refine s_bind (fun q25 hq26 => ?_)
          have hC27 := t_X11_keepsCustom (l := xl X) (G := xG X) hq26
          refine s_callV (pc := 37) (As := [.int s5.2.2.2]) (st := []) (nlt rfl) (q := (RX11, TX11, 16)) rfl rfl o11 cl_X11_keepsCustom wi_X11_keepsCustom wl_X11_keepsCustom km_X11_266 rfl rfl (nle rfl) (nle rfl) (nle rfl) dX11_judge_37 hC27 ?_
          have h28 := hC27.1 X
          have o29 := h28.ok o11
          show S0 X _ q25.1 40 [some (.ref (gh (xG X) + a0)), some (.int x1), some (.int s5.2.1), some (.int s5.2.2.1), some (.int s5.2.2.2)] [.int q25.2] _
          refine s_ifne (pc := 40) 49 dX11_judge_40 rfl ?_ ?_
          · exact s_drop (hj22 (q25.1, s5.2.1, s5.2.2.1) h28) (And.intro rfl (And.intro rfl (And.intro rfl (And.intro rfl (And.intro rfl trivial)))))
          · refine s_iload (pc := 43) dX11_judge_43 rfl ?_
            refine s_istore_n (pc := 45) 2 dX11_judge_45 rfl (nlt rfl) rfl (L' := [some (.ref (gh (xG X) + a0)), some (.int x1), some (.int s5.2.2.2), some (.int s5.2.2.1), some (.int s5.2.2.2)]) rfl ?_
            refine s_iinc (pc := 46) dX11_judge_46 rfl (v := s5.2.2.1 + 1) (congrArg (fun z : Int32 => s5.2.2.1 + z) kc_1) (nlt rfl) rfl (L' := [some (.ref (gh (xG X) + a0)), some (.int x1), some (.int s5.2.2.2), some (.int (s5.2.2.1 + 1)), some (.int s5.2.2.2)]) rfl ?_
            refine s_bv (fun x30 : Int32 => [some (.ref (gh (xG X) + a0)), some (.int x1), some (.int s5.2.2.2), some (.int x30), some (.int s5.2.2.2)]) (fun x30 => ?_) rfl
            exact s_drop (hj22 (q25.1, s5.2.2.2, x30) h28) (And.intro rfl (And.intro rfl (And.intro rfl (And.intro rfl (And.intro rfl trivial)))))
noncomputable def f_X11_likely (M : Mem) (a0 : Nat) (x1 : Int32) (x2 : Int32) : Option (Mem × Int32) :=
  grd (okO M 11 a0) (Option.bind (mR M a0 8) (fun r2 => Option.bind (f_X6_rankOf x1) (fun q3 => grd (okO M 0 r2) (Option.bind (f_X0_work M r2 q3 x2) (fun q7 => if q7.2 = 0 then (some (q7.1, (-1))) else (Option.bind (mR q7.1 a0 8) (fun r12 => grd (okO q7.1 0 r12) (Option.bind (f_X0_likeliest q7.1 r12) (fun q14 => Option.bind (f_X6_numberOf q14) (fun q17 => some (q7.1, q17)))))))))))
abbrev Y_X11_likely : Sta := (RX11, "likely", cX11_likely, 3, (some .int), 8)
set_option maxRecDepth 100000 in
set_option maxHeartbeats 8000000 in
theorem t_X11_likely {l : Launch} {G : Gh} {M : Mem} {a0 : Nat} {x1 : Int32} {x2 : Int32} {q : Mem × Int32} (h : f_X11_likely M a0 x1 x2 = some q) : Ctr l G yX11_likely Y_X11_likely M [.ref (gh G + a0), .int x1, .int x2] q.1 (some (.int q.2)) := by
  refine Ctr.of (Y := Y_X11_likely) (L := [some (.ref (gh G + a0)), some (.int x1), some (.int x2)]) (t := Option.bind (f_X11_likely M a0 x1 x2) (fun q => some (q.1, some (.int q.2)))) (by decide) rfl rfl (nle rfl) (Lof_in 0 _ rfl) (fun X hG hl => ?_) (by rw [h]; rfl)
  subst hG
  subst hl
  unfold f_X11_likely
  refine s_aload_n (pc := 0) 0 dX11_likely_0 rfl rfl ?_
  refine s_grd (fun o1 => ?_)
  refine s_geto (pc := 1) F_11 8 rfl o1 dX11_likely_1 kf_X11_71 ?_
  refine s_rvB (fun r2 => ?_)
  refine s_iload_n (pc := 4) 1 dX11_likely_4 rfl rfl ?_
  refine s_bind (fun q3 hq4 => ?_)
  have hC5 := t_X6_rankOf (l := xl X) (G := xG X) (M := M) hq4
  refine s_callS (pc := 5) (As := [.int x1]) (st := [.ref (gh (xG X) + r2)]) cl_X6_rankOf wt_X6_rankOf km_X11_111 rfl rfl (nle rfl) (nle rfl) (nle rfl) dX11_likely_5 hC5 ?_
  show S0 X _ M 8 [some (.ref (gh (xG X) + a0)), some (.int x1), some (.int x2)] [.int q3, .ref (gh (xG X) + r2)] _
  refine s_iload_n (pc := 8) 2 dX11_likely_8 rfl rfl ?_
  refine s_grd (fun o6 => ?_)
  refine s_bind (fun q7 hq8 => ?_)
  have hC9 := t_X0_work (l := xl X) (G := xG X) hq8
  refine s_callV (pc := 9) (As := [.int q3, .int x2]) (st := []) (nlt rfl) (q := (RX0, TX0, 9)) rfl rfl o6 cl_X0_work wi_X0_work wl_X0_work km_X11_321 rfl rfl (nle rfl) (nle rfl) (nle rfl) dX11_likely_9 hC9 ?_
  have h10 := hC9.1 X
  have o11 := h10.ok o1
  show S0 X _ q7.1 12 [some (.ref (gh (xG X) + a0)), some (.int x1), some (.int x2)] [.int q7.2] _
  refine s_ifne (pc := 12) 17 dX11_likely_12 rfl ?_ ?_
  · refine s_aload_n (pc := 17) 0 dX11_likely_17 rfl rfl ?_
    refine s_geto (pc := 18) F_11 8 rfl o11 dX11_likely_18 kf_X11_71 ?_
    refine s_rvB (fun r12 => ?_)
    refine s_grd (fun o13 => ?_)
    refine s_bind (fun q14 hq15 => ?_)
    have hC16 := t_X0_likeliest (l := xl X) (G := xG X) hq15
    refine s_callV (pc := 21) (As := []) (st := []) (nlt rfl) (q := (RX0, TX0, 9)) rfl rfl o13 cl_X0_likeliest wi_X0_likeliest wl_X0_likeliest km_X11_330 rfl rfl (nle rfl) (nle rfl) (nle rfl) dX11_likely_21 hC16 ?_
    show S0 X _ q7.1 24 [some (.ref (gh (xG X) + a0)), some (.int x1), some (.int x2)] [.int q14] _
    refine s_bind (fun q17 hq18 => ?_)
    have hC19 := t_X6_numberOf (l := xl X) (G := xG X) (M := q7.1) hq18
    refine s_callS (pc := 24) (As := [.int q14]) (st := []) cl_X6_numberOf wt_X6_numberOf km_X11_146 rfl rfl (nle rfl) (nle rfl) (nle rfl) dX11_likely_24 hC19 ?_
    show S0 X _ q7.1 27 [some (.ref (gh (xG X) + a0)), some (.int x1), some (.int x2)] [.int q17] _
    exact s_iret rfl dX11_likely_27
  · refine s_iconst (pc := 15) (-1) dX11_likely_15 kc_m1 ?_
    exact s_iret rfl dX11_likely_16
noncomputable def f_X11_odds (M : Mem) (a0 : Nat) (x1 : Int32) (x2 : Int32) (x3 : Int32) : Option (Mem × Int64) :=
  Option.bind (f_X6_rankOf x2) (fun q1 => if q1 = (-1) then (some (M, (-1))) else (grd (okO M 11 a0) (Option.bind (mR M a0 8) (fun r5 => Option.bind (f_X6_rankOf x1) (fun q6 => grd (okO M 0 r5) (Option.bind (f_X0_work M r5 q6 x3) (fun q10 => if q10.2 = 0 then (some (q10.1, (-1))) else (Option.bind (mR q10.1 a0 8) (fun r15 => grd (okO q10.1 0 r15) (Option.bind (mR q10.1 r15 3) (fun r17 => grd (okO q10.1 15 r17) (grd (vp_in q1 (mL q10.1 r17)) (some (q10.1, mJ q10.1 r17 q1.toNatClampNeg))))))))))))))
abbrev Y_X11_odds : Sta := (RX11, "odds", cX11_odds, 5, (some .long), 8)
set_option maxRecDepth 100000 in
set_option maxHeartbeats 8000000 in
theorem t_X11_odds {l : Launch} {G : Gh} {M : Mem} {a0 : Nat} {x1 : Int32} {x2 : Int32} {x3 : Int32} {q : Mem × Int64} (h : f_X11_odds M a0 x1 x2 x3 = some q) : Ctr l G yX11_odds Y_X11_odds M [.ref (gh G + a0), .int x1, .int x2, .int x3] q.1 (some (.long q.2)) := by
  refine Ctr.of (Y := Y_X11_odds) (L := [some (.ref (gh G + a0)), some (.int x1), some (.int x2), some (.int x3), none]) (t := Option.bind (f_X11_odds M a0 x1 x2 x3) (fun q => some (q.1, some (.long q.2)))) (by decide) rfl rfl (nle rfl) (Lof_in 1 _ rfl) (fun X hG hl => ?_) (by rw [h]; rfl)
  subst hG
  subst hl
  unfold f_X11_odds
  refine s_iload_n (pc := 0) 2 dX11_odds_0 rfl rfl ?_
  refine s_bind (fun q1 hq2 => ?_)
  have hC3 := t_X6_rankOf (l := xl X) (G := xG X) (M := M) hq2
  refine s_callS (pc := 1) (As := [.int x2]) (st := []) cl_X6_rankOf wt_X6_rankOf km_X11_111 rfl rfl (nle rfl) (nle rfl) (nle rfl) dX11_odds_1 hC3 ?_
  show S0 X _ M 4 [some (.ref (gh (xG X) + a0)), some (.int x1), some (.int x2), some (.int x3), none] [.int q1] _
  refine s_istore (pc := 4) dX11_odds_4 (nlt rfl) rfl (L' := [some (.ref (gh (xG X) + a0)), some (.int x1), some (.int x2), some (.int x3), some (.int q1)]) rfl ?_
  refine s_iload (pc := 6) dX11_odds_6 rfl ?_
  refine s_iconst (pc := 8) (-1) dX11_odds_8 kc_m1 ?_
  refine s_iceq (pc := 9) 27 dX11_odds_9 rfl ?_ ?_
  · refine s_ldc2 (pc := 27) dX11_odds_27 kl_X11_324 ?_
    exact s_lret rfl dX11_odds_30
  · refine s_aload_n (pc := 12) 0 dX11_odds_12 rfl rfl ?_
    refine s_grd (fun o4 => ?_)
    refine s_geto (pc := 13) F_11 8 rfl o4 dX11_odds_13 kf_X11_71 ?_
    refine s_rvB (fun r5 => ?_)
    refine s_iload_n (pc := 16) 1 dX11_odds_16 rfl rfl ?_
    refine s_bind (fun q6 hq7 => ?_)
    have hC8 := t_X6_rankOf (l := xl X) (G := xG X) (M := M) hq7
    refine s_callS (pc := 17) (As := [.int x1]) (st := [.ref (gh (xG X) + r5)]) cl_X6_rankOf wt_X6_rankOf km_X11_111 rfl rfl (nle rfl) (nle rfl) (nle rfl) dX11_odds_17 hC8 ?_
    show S0 X _ M 20 [some (.ref (gh (xG X) + a0)), some (.int x1), some (.int x2), some (.int x3), some (.int q1)] [.int q6, .ref (gh (xG X) + r5)] _
    refine s_iload_n (pc := 20) 3 dX11_odds_20 rfl rfl ?_
    refine s_grd (fun o9 => ?_)
    refine s_bind (fun q10 hq11 => ?_)
    have hC12 := t_X0_work (l := xl X) (G := xG X) hq11
    refine s_callV (pc := 21) (As := [.int q6, .int x3]) (st := []) (nlt rfl) (q := (RX0, TX0, 9)) rfl rfl o9 cl_X0_work wi_X0_work wl_X0_work km_X11_321 rfl rfl (nle rfl) (nle rfl) (nle rfl) dX11_odds_21 hC12 ?_
    have h13 := hC12.1 X
    have o14 := h13.ok o4
    show S0 X _ q10.1 24 [some (.ref (gh (xG X) + a0)), some (.int x1), some (.int x2), some (.int x3), some (.int q1)] [.int q10.2] _
    refine s_ifne (pc := 24) 31 dX11_odds_24 rfl ?_ ?_
    · refine s_aload_n (pc := 31) 0 dX11_odds_31 rfl rfl ?_
      refine s_geto (pc := 32) F_11 8 rfl o14 dX11_odds_32 kf_X11_71 ?_
      refine s_rvB (fun r15 => ?_)
      refine s_grd (fun o16 => ?_)
      refine s_geto (pc := 35) F_0 3 rfl o16 dX11_odds_35 kf_X11_326 ?_
      refine s_rvB (fun r17 => ?_)
      refine s_iload (pc := 38) dX11_odds_38 rfl ?_
      refine s_grd (fun o18 => ?_)
      refine s_grd (fun i19 => ?_)
      refine s_lald (pc := 40) o18 i19 dX11_odds_40 ?_
      exact s_lret rfl dX11_odds_41
    · refine s_ldc2 (pc := 27) dX11_odds_27 kl_X11_324 ?_
      exact s_lret rfl dX11_odds_30
noncomputable def f_X11_steps (M : Mem) (a0 : Nat) (x1 : Int32) (x2 : Int32) : Option (Mem × Int32) :=
  Option.bind (f_X6_rankOf x1) (fun q1 => Option.bind (f_X6_rankOf x2) (fun q4 => if q1 = (-1) then (some (M, (-1))) else (if q4 = (-1) then (some (M, (-1))) else (grd (okO M 11 a0) (Option.bind (mR M a0 6) (fun r8 => Option.bind (mR M a0 0) (fun r9 => grd (okO M 10 r9) (grd (okO M 4 r8) (Option.bind (f_X4_stepsFrom M r8 q1 q4 (mI M r9 11)) (fun q12 => some (q12.1, q12.2)))))))))))
abbrev Y_X11_steps : Sta := (RX11, "steps", cX11_steps, 5, (some .int), 8)
set_option maxRecDepth 100000 in
set_option maxHeartbeats 8000000 in
theorem t_X11_steps {l : Launch} {G : Gh} {M : Mem} {a0 : Nat} {x1 : Int32} {x2 : Int32} {q : Mem × Int32} (h : f_X11_steps M a0 x1 x2 = some q) : Ctr l G yX11_steps Y_X11_steps M [.ref (gh G + a0), .int x1, .int x2] q.1 (some (.int q.2)) := by
  refine Ctr.of (Y := Y_X11_steps) (L := [some (.ref (gh G + a0)), some (.int x1), some (.int x2), none, none]) (t := Option.bind (f_X11_steps M a0 x1 x2) (fun q => some (q.1, some (.int q.2)))) (by decide) rfl rfl (nle rfl) (Lof_in 2 _ rfl) (fun X hG hl => ?_) (by rw [h]; rfl)
  subst hG
  subst hl
  unfold f_X11_steps
  refine s_iload_n (pc := 0) 1 dX11_steps_0 rfl rfl ?_
  refine s_bind (fun q1 hq2 => ?_)
  have hC3 := t_X6_rankOf (l := xl X) (G := xG X) (M := M) hq2
  refine s_callS (pc := 1) (As := [.int x1]) (st := []) cl_X6_rankOf wt_X6_rankOf km_X11_111 rfl rfl (nle rfl) (nle rfl) (nle rfl) dX11_steps_1 hC3 ?_
  show S0 X _ M 4 [some (.ref (gh (xG X) + a0)), some (.int x1), some (.int x2), none, none] [.int q1] _
  refine s_istore_n (pc := 4) 3 dX11_steps_4 rfl (nlt rfl) rfl (L' := [some (.ref (gh (xG X) + a0)), some (.int x1), some (.int x2), some (.int q1), none]) rfl ?_
  refine s_iload_n (pc := 5) 2 dX11_steps_5 rfl rfl ?_
  refine s_bind (fun q4 hq5 => ?_)
  have hC6 := t_X6_rankOf (l := xl X) (G := xG X) (M := M) hq5
  refine s_callS (pc := 6) (As := [.int x2]) (st := []) cl_X6_rankOf wt_X6_rankOf km_X11_111 rfl rfl (nle rfl) (nle rfl) (nle rfl) dX11_steps_6 hC6 ?_
  show S0 X _ M 9 [some (.ref (gh (xG X) + a0)), some (.int x1), some (.int x2), some (.int q1), none] [.int q4] _
  refine s_istore (pc := 9) dX11_steps_9 (nlt rfl) rfl (L' := [some (.ref (gh (xG X) + a0)), some (.int x1), some (.int x2), some (.int q1), some (.int q4)]) rfl ?_
  refine s_iload_n (pc := 11) 3 dX11_steps_11 rfl rfl ?_
  refine s_iconst (pc := 12) (-1) dX11_steps_12 kc_m1 ?_
  refine s_iceq (pc := 13) 22 dX11_steps_13 rfl ?_ ?_
  · refine s_iconst (pc := 22) (-1) dX11_steps_22 kc_m1 ?_
    refine s_goto (pc := 23) 43 dX11_steps_23 rfl ?_
    exact s_iret rfl dX11_steps_43
  · refine s_iload (pc := 16) dX11_steps_16 rfl ?_
    refine s_iconst (pc := 18) (-1) dX11_steps_18 kc_m1 ?_
    refine s_icne (pc := 19) 26 dX11_steps_19 rfl ?_ ?_
    · refine s_aload_n (pc := 26) 0 dX11_steps_26 rfl rfl ?_
      refine s_grd (fun o7 => ?_)
      refine s_geto (pc := 27) F_11 6 rfl o7 dX11_steps_27 kf_X11_55 ?_
      refine s_rvB (fun r8 => ?_)
      refine s_iload_n (pc := 30) 3 dX11_steps_30 rfl rfl ?_
      refine s_iload (pc := 31) dX11_steps_31 rfl ?_
      refine s_aload_n (pc := 33) 0 dX11_steps_33 rfl rfl ?_
      refine s_geto (pc := 34) F_11 0 rfl o7 dX11_steps_34 kf_X11_10 ?_
      refine s_rvB (fun r9 => ?_)
      refine s_grd (fun o10 => ?_)
      refine s_getiN (pc := 37) F_10 11 rfl o10 dX11_steps_37 (List.mem_of_getElem? (i := 14) rfl) ?_
      refine s_grd (fun o11 => ?_)
      refine s_bind (fun q12 hq13 => ?_)
      have hC14 := t_X4_stepsFrom (l := xl X) (G := xG X) hq13
      refine s_callV (pc := 40) (As := [.int q1, .int q4, .int (mI M r9 11)]) (st := []) (nlt rfl) (q := (RX4, TX4, 10)) rfl rfl o11 cl_X4_stepsFrom wi_X4_stepsFrom wl_X4_stepsFrom km_X11_155 rfl rfl (nle rfl) (nle rfl) (nle rfl) dX11_steps_40 hC14 ?_
      have h15 := hC14.1 X
      have o16 := h15.ok o7
      show S0 X _ q12.1 43 [some (.ref (gh (xG X) + a0)), some (.int x1), some (.int x2), some (.int q1), some (.int q4)] [.int q12.2] _
      exact s_iret rfl dX11_steps_43
    · refine s_iconst (pc := 22) (-1) dX11_steps_22 kc_m1 ?_
      refine s_goto (pc := 23) 43 dX11_steps_23 rfl ?_
      exact s_iret rfl dX11_steps_43
noncomputable def f_X11_way (M : Mem) (a0 : Nat) (x1 : Int32) (x2 : Int32) (x3 : Int32) : Option (Mem × Int32) :=
  Option.bind (f_X6_rankOf x1) (fun q1 => Option.bind (f_X6_rankOf x2) (fun q4 => if q1 = (-1) then (some (M, (-1))) else (if q4 = (-1) then (some (M, (-1))) else (if 0 ≤ x3 then (grd (okO M 11 a0) (Option.bind (mR M a0 6) (fun r8 => Option.bind (mR M a0 0) (fun r9 => grd (okO M 10 r9) (grd (okO M 4 r8) (Option.bind (f_X4_stepsFrom M r8 q1 q4 (mI M r9 11)) (fun q12 => if q12.2 = (-1) then (some (q12.1, (-1))) else (if x3 ≤ q12.2 then (Option.bind (mR q12.1 a0 6) (fun r17 => Option.bind (mR q12.1 a0 0) (fun r18 => grd (okO q12.1 10 r18) (grd (okO q12.1 4 r17) (Option.bind (f_X4_tableTo q12.1 r17 q4 (mI q12.1 r18 11)) (fun q21 => Option.bind (loopO (σ := Mem × Int32 × Int32 × Int32) (ρ := Mem × Int32) (fun s26 => if x3 ≤ s26.2.2.2 then (some (.inr (s26.1, s26.2.1))) else (bv (s26.2.2.1 + (-1) : Int32) (fun x35 => Option.bind (mR s26.1 a0 5) (fun r36 => grd (okO s26.1 1 r36) (Option.bind (f_X1_listAll s26.1 r36 s26.2.1) (fun q38 => Option.bind (mR q38 a0 5) (fun r43 => grd (okO q38 1 r43) (Option.bind (f_X1_lowestMade q38 r43 (-1) q21.2 x35) (fun q45 => bv (s26.2.2.2 + 1 : Int32) (fun x48 => some (.inl (q38, q45, x35, x48)))))))))))) (q21.1, q1, q12.2, 0)) (fun (x33 : Mem × Int32) => Option.bind (f_X6_numberOf x33.2) (fun q49 => some (x33.1, q49))))))))) else (some (q12.1, (-1))))))))))) else (some (M, (-1)))))))
abbrev Y_X11_way : Sta := (RX11, "way", cX11_way, 9, (some .int), 8)
set_option maxRecDepth 100000 in
set_option maxHeartbeats 8000000 in
theorem t_X11_way {l : Launch} {G : Gh} {M : Mem} {a0 : Nat} {x1 : Int32} {x2 : Int32} {x3 : Int32} {q : Mem × Int32} (h : f_X11_way M a0 x1 x2 x3 = some q) : Ctr l G yX11_way Y_X11_way M [.ref (gh G + a0), .int x1, .int x2, .int x3] q.1 (some (.int q.2)) := by
  refine Ctr.of (Y := Y_X11_way) (L := [some (.ref (gh G + a0)), some (.int x1), some (.int x2), some (.int x3), none, none, none, none, none]) (t := Option.bind (f_X11_way M a0 x1 x2 x3) (fun q => some (q.1, some (.int q.2)))) (by decide) rfl rfl (nle rfl) (Lof_in 5 _ rfl) (fun X hG hl => ?_) (by rw [h]; rfl)
  subst hG
  subst hl
  unfold f_X11_way
  refine s_iload_n (pc := 0) 1 dX11_way_0 rfl rfl ?_
  refine s_bind (fun q1 hq2 => ?_)
  have hC3 := t_X6_rankOf (l := xl X) (G := xG X) (M := M) hq2
  refine s_callS (pc := 1) (As := [.int x1]) (st := []) cl_X6_rankOf wt_X6_rankOf km_X11_111 rfl rfl (nle rfl) (nle rfl) (nle rfl) dX11_way_1 hC3 ?_
  show S0 X _ M 4 [some (.ref (gh (xG X) + a0)), some (.int x1), some (.int x2), some (.int x3), none, none, none, none, none] [.int q1] _
  refine s_istore (pc := 4) dX11_way_4 (nlt rfl) rfl (L' := [some (.ref (gh (xG X) + a0)), some (.int x1), some (.int x2), some (.int x3), some (.int q1), none, none, none, none]) rfl ?_
  refine s_iload_n (pc := 6) 2 dX11_way_6 rfl rfl ?_
  refine s_bind (fun q4 hq5 => ?_)
  have hC6 := t_X6_rankOf (l := xl X) (G := xG X) (M := M) hq5
  refine s_callS (pc := 7) (As := [.int x2]) (st := []) cl_X6_rankOf wt_X6_rankOf km_X11_111 rfl rfl (nle rfl) (nle rfl) (nle rfl) dX11_way_7 hC6 ?_
  show S0 X _ M 10 [some (.ref (gh (xG X) + a0)), some (.int x1), some (.int x2), some (.int x3), some (.int q1), none, none, none, none] [.int q4] _
  refine s_istore (pc := 10) dX11_way_10 (nlt rfl) rfl (L' := [some (.ref (gh (xG X) + a0)), some (.int x1), some (.int x2), some (.int x3), some (.int q1), some (.int q4), none, none, none]) rfl ?_
  refine s_iload (pc := 12) dX11_way_12 rfl ?_
  refine s_iconst (pc := 14) (-1) dX11_way_14 kc_m1 ?_
  refine s_iceq (pc := 15) 28 dX11_way_15 rfl ?_ ?_
  · refine s_iconst (pc := 28) (-1) dX11_way_28 kc_m1 ?_
    exact s_iret rfl dX11_way_29
  · refine s_iload (pc := 18) dX11_way_18 rfl ?_
    refine s_iconst (pc := 20) (-1) dX11_way_20 kc_m1 ?_
    refine s_iceq (pc := 21) 28 dX11_way_21 rfl ?_ ?_
    · refine s_iconst (pc := 28) (-1) dX11_way_28 kc_m1 ?_
      exact s_iret rfl dX11_way_29
    · refine s_iload_n (pc := 24) 3 dX11_way_24 rfl rfl ?_
      refine s_ifge (pc := 25) 30 dX11_way_25 rfl ?_ ?_
      · refine s_aload_n (pc := 30) 0 dX11_way_30 rfl rfl ?_
        refine s_grd (fun o7 => ?_)
        refine s_geto (pc := 31) F_11 6 rfl o7 dX11_way_31 kf_X11_55 ?_
        refine s_rvB (fun r8 => ?_)
        refine s_iload (pc := 34) dX11_way_34 rfl ?_
        refine s_iload (pc := 36) dX11_way_36 rfl ?_
        refine s_aload_n (pc := 38) 0 dX11_way_38 rfl rfl ?_
        refine s_geto (pc := 39) F_11 0 rfl o7 dX11_way_39 kf_X11_10 ?_
        refine s_rvB (fun r9 => ?_)
        refine s_grd (fun o10 => ?_)
        refine s_getiN (pc := 42) F_10 11 rfl o10 dX11_way_42 (List.mem_of_getElem? (i := 14) rfl) ?_
        refine s_grd (fun o11 => ?_)
        refine s_bind (fun q12 hq13 => ?_)
        have hC14 := t_X4_stepsFrom (l := xl X) (G := xG X) hq13
        refine s_callV (pc := 45) (As := [.int q1, .int q4, .int (mI M r9 11)]) (st := []) (nlt rfl) (q := (RX4, TX4, 10)) rfl rfl o11 cl_X4_stepsFrom wi_X4_stepsFrom wl_X4_stepsFrom km_X11_155 rfl rfl (nle rfl) (nle rfl) (nle rfl) dX11_way_45 hC14 ?_
        have h15 := hC14.1 X
        have o16 := h15.ok o7
        show S0 X _ q12.1 48 [some (.ref (gh (xG X) + a0)), some (.int x1), some (.int x2), some (.int x3), some (.int q1), some (.int q4), none, none, none] [.int q12.2] _
        refine s_istore (pc := 48) dX11_way_48 (nlt rfl) rfl (L' := [some (.ref (gh (xG X) + a0)), some (.int x1), some (.int x2), some (.int x3), some (.int q1), some (.int q4), some (.int q12.2), none, none]) rfl ?_
        refine s_iload (pc := 50) dX11_way_50 rfl ?_
        refine s_iconst (pc := 52) (-1) dX11_way_52 kc_m1 ?_
        refine s_iceq (pc := 53) 62 dX11_way_53 rfl ?_ ?_
        · refine s_iconst (pc := 62) (-1) dX11_way_62 kc_m1 ?_
          exact s_iret rfl dX11_way_63
        · refine s_iload_n (pc := 56) 3 dX11_way_56 rfl rfl ?_
          refine s_iload (pc := 57) dX11_way_57 rfl ?_
          refine s_icle (pc := 59) 64 dX11_way_59 rfl ?_ ?_
          · refine s_aload_n (pc := 64) 0 dX11_way_64 rfl rfl ?_
            refine s_geto (pc := 65) F_11 6 rfl o16 dX11_way_65 kf_X11_55 ?_
            refine s_rvB (fun r17 => ?_)
            refine s_iload (pc := 68) dX11_way_68 rfl ?_
            refine s_aload_n (pc := 70) 0 dX11_way_70 rfl rfl ?_
            refine s_geto (pc := 71) F_11 0 rfl o16 dX11_way_71 kf_X11_10 ?_
            refine s_rvB (fun r18 => ?_)
            refine s_grd (fun o19 => ?_)
            refine s_getiN (pc := 74) F_10 11 rfl o19 dX11_way_74 (List.mem_of_getElem? (i := 14) rfl) ?_
            refine s_grd (fun o20 => ?_)
            refine s_bind (fun q21 hq22 => ?_)
            have hC23 := t_X4_tableTo (l := xl X) (G := xG X) hq22
            refine s_callV (pc := 77) (As := [.int q4, .int (mI q12.1 r18 11)]) (st := []) (nlt rfl) (q := (RX4, TX4, 10)) rfl rfl o20 cl_X4_tableTo wi_X4_tableTo wl_X4_tableTo km_X11_252 rfl rfl (nle rfl) (nle rfl) (nle rfl) dX11_way_77 hC23 ?_
            have h24 := hC23.1 X
            have o25 := h24.ok o16
            show S0 X _ q21.1 80 [some (.ref (gh (xG X) + a0)), some (.int x1), some (.int x2), some (.int x3), some (.int q1), some (.int q4), some (.int q12.2), none, none] [.ref (gh (xG X) + q21.2)] _
            refine s_astore (pc := 80) dX11_way_80 (nlt rfl) rfl (L' := [some (.ref (gh (xG X) + a0)), some (.int x1), some (.int x2), some (.int x3), some (.int q1), some (.int q4), some (.int q12.2), some (.ref (gh (xG X) + q21.2)), none]) rfl ?_
            refine s_iconst (pc := 82) 0 dX11_way_82 kc_0 ?_
            refine s_istore (pc := 83) dX11_way_83 (nlt rfl) rfl (L' := [some (.ref (gh (xG X) + a0)), some (.int x1), some (.int x2), some (.int x3), some (.int q1), some (.int q4), some (.int q12.2), some (.ref (gh (xG X) + q21.2)), some (.int 0)]) rfl ?_
            refine s_drop (L' := [some (.ref (gh (xG X) + a0)), none, none, some (.int x3), some (.int q1), none, some (.int q12.2), some (.ref (gh (xG X) + q21.2)), some (.int 0)]) ?_ (And.intro rfl (And.intro rfl (And.intro rfl (And.intro rfl (And.intro rfl (And.intro rfl trivial))))))
            refine s_loop1 q21.1 (fun s26 : Mem × Int32 × Int32 × Int32 => s26.1) (fun s26 : Mem × Int32 × Int32 × Int32 => [some (.ref (gh (xG X) + a0)), none, none, some (.int x3), some (.int s26.2.1), none, some (.int s26.2.2.1), some (.ref (gh (xG X) + q21.2)), some (.int s26.2.2.2)]) (fun x33 : Mem × Int32 => x33.1) 123 (fun x33 : Mem × Int32 => [none, none, none, none, some (.int x33.2), none, none, none, none]) (fun x33 hx34 => ?_) (fun T28 R30 hT29 hR31 s26 hs27 => ?_) (q21.1, q1, q12.2, 0) Le.rf
            · show S0 X _ x33.1 123 [none, none, none, none, some (.int x33.2), none, none, none, none] [] _
              refine s_iload (pc := 123) dX11_way_123 rfl ?_
              refine s_bind (fun q49 hq50 => ?_)
              have hC51 := t_X6_numberOf (l := xl X) (G := xG X) (M := x33.1) hq50
              refine s_callS (pc := 125) (As := [.int x33.2]) (st := []) cl_X6_numberOf wt_X6_numberOf km_X11_146 rfl rfl (nle rfl) (nle rfl) (nle rfl) dX11_way_125 hC51 ?_
              show S0 X _ x33.1 128 [none, none, none, none, some (.int x33.2), none, none, none, none] [.int q49] _
              exact s_iret rfl dX11_way_128
            · show S0 X _ s26.1 85 [some (.ref (gh (xG X) + a0)), none, none, some (.int x3), some (.int s26.2.1), none, some (.int s26.2.2.1), some (.ref (gh (xG X) + q21.2)), some (.int s26.2.2.2)] [] _
              have o32 := hs27.ok o25
              refine s_iload (pc := 85) dX11_way_85 rfl ?_
              refine s_iload_n (pc := 87) 3 dX11_way_87 rfl rfl ?_
              refine s_icge (pc := 88) 123 dX11_way_88 rfl ?_ ?_
              · exact s_drop (hR31 (s26.1, s26.2.1) hs27) (And.intro rfl trivial)
              · refine s_iinc (pc := 91) dX11_way_91 rfl (v := s26.2.2.1 + (-1)) (congrArg (fun z : Int32 => s26.2.2.1 + z) kc_m1) (nlt rfl) rfl (L' := [some (.ref (gh (xG X) + a0)), none, none, some (.int x3), some (.int s26.2.1), none, some (.int (s26.2.2.1 + (-1))), some (.ref (gh (xG X) + q21.2)), some (.int s26.2.2.2)]) rfl ?_
                refine s_bv (fun x35 : Int32 => [some (.ref (gh (xG X) + a0)), none, none, some (.int x3), some (.int s26.2.1), none, some (.int x35), some (.ref (gh (xG X) + q21.2)), some (.int s26.2.2.2)]) (fun x35 => ?_) rfl
                refine s_aload_n (pc := 94) 0 dX11_way_94 rfl rfl ?_
                refine s_geto (pc := 95) F_11 5 rfl o32 dX11_way_95 kf_X11_48 ?_
                refine s_rvB (fun r36 => ?_)
                refine s_iload (pc := 98) dX11_way_98 rfl ?_
                refine s_grd (fun o37 => ?_)
                refine s_bind (fun q38 hq39 => ?_)
                have hC40 := t_X1_listAll (l := xl X) (G := xG X) hq39
                refine s_callV (pc := 100) (As := [.int s26.2.1]) (st := []) (nlt rfl) (q := (RX1, TX1, 8)) rfl rfl o37 cl_X1_listAll wi_X1_listAll wl_X1_listAll km_X11_245 rfl rfl (nle rfl) (nle rfl) (nle rfl) dX11_way_100 hC40 ?_
                have h41 := hC40.1 X
                have o42 := h41.ok o32
                show S0 X _ q38 103 [some (.ref (gh (xG X) + a0)), none, none, some (.int x3), some (.int s26.2.1), none, some (.int x35), some (.ref (gh (xG X) + q21.2)), some (.int s26.2.2.2)] [] _
                refine s_aload_n (pc := 103) 0 dX11_way_103 rfl rfl ?_
                refine s_geto (pc := 104) F_11 5 rfl o42 dX11_way_104 kf_X11_48 ?_
                refine s_rvB (fun r43 => ?_)
                refine s_iconst (pc := 107) (-1) dX11_way_107 kc_m1 ?_
                refine s_aload (pc := 108) dX11_way_108 rfl ?_
                refine s_iload (pc := 110) dX11_way_110 rfl ?_
                refine s_grd (fun o44 => ?_)
                refine s_bind (fun q45 hq46 => ?_)
                have hC47 := t_X1_lowestMade (l := xl X) (G := xG X) hq46
                refine s_callV (pc := 112) (As := [.int (-1), .ref (gh (xG X) + q21.2), .int x35]) (st := []) (nlt rfl) (q := (RX1, TX1, 8)) rfl rfl o44 cl_X1_lowestMade wi_X1_lowestMade wl_X1_lowestMade km_X11_256 rfl rfl (nle rfl) (nle rfl) (nle rfl) dX11_way_112 hC47 ?_
                show S0 X _ q38 115 [some (.ref (gh (xG X) + a0)), none, none, some (.int x3), some (.int s26.2.1), none, some (.int x35), some (.ref (gh (xG X) + q21.2)), some (.int s26.2.2.2)] [.int q45] _
                refine s_istore (pc := 115) dX11_way_115 (nlt rfl) rfl (L' := [some (.ref (gh (xG X) + a0)), none, none, some (.int x3), some (.int q45), none, some (.int x35), some (.ref (gh (xG X) + q21.2)), some (.int s26.2.2.2)]) rfl ?_
                refine s_iinc (pc := 117) dX11_way_117 rfl (v := s26.2.2.2 + 1) (congrArg (fun z : Int32 => s26.2.2.2 + z) kc_1) (nlt rfl) rfl (L' := [some (.ref (gh (xG X) + a0)), none, none, some (.int x3), some (.int q45), none, some (.int x35), some (.ref (gh (xG X) + q21.2)), some (.int (s26.2.2.2 + 1))]) rfl ?_
                refine s_bv (fun x48 : Int32 => [some (.ref (gh (xG X) + a0)), none, none, some (.int x3), some (.int q45), none, some (.int x35), some (.ref (gh (xG X) + q21.2)), some (.int x48)]) (fun x48 => ?_) rfl
                refine s_goto (pc := 120) 85 dX11_way_120 rfl ?_
                exact s_drop (hT29 (q38, q45, x35, x48) (hs27.tr h41)) (And.intro rfl (And.intro rfl (And.intro rfl (And.intro rfl (And.intro rfl (And.intro rfl trivial))))))
          · refine s_iconst (pc := 62) (-1) dX11_way_62 kc_m1 ?_
            exact s_iret rfl dX11_way_63
      · refine s_iconst (pc := 28) (-1) dX11_way_28 kc_m1 ?_
        exact s_iret rfl dX11_way_29
