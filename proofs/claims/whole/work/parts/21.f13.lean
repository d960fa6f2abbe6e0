set_option maxRecDepth 100000 in
set_option maxHeartbeats 8000000 in
noncomputable def f_X5_workFewest (M : Mem) (a0 : Nat) : Option Mem :=
  Option.bind (loopO (σ := Mem × Int32) (ρ := Mem) (fun s1 => grd (okO s1.1 5 a0) (if (sl 1 (mI s1.1 a0 7)) ≤ s1.2 then (some (.inr s1.1)) else (Option.bind (mR s1.1 a0 4) (fun r10 => Option.bind (f_J6_bitCount_0f7a4 s1.2) (fun q11 => bv (fun (s15 : Int32) => grd (okO s1.1 14 r10) (grd (vp_in s1.2 (mL s1.1 r10)) (bv (wI s1.1 r10 s1.2.toNatClampNeg s15) (fun M20 => Option.bind (loopO (σ := Mem × Int32) (ρ := Mem) (fun s24 => if (mI s24.1 a0 7) ≤ s24.2 then (some (.inr s24.1)) else (bv (s1.2 &&& ((sl 1 s24.2) ^^^ (-1)) : Int32) (fun x33 => bv (fun (s35 : Mem) => bv (s24.2 + 1 : Int32) (fun x39 => some (.inl (s35, x39)))) (fun j34 => if x33 = s1.2 then (j34 s24.1) else (if x33 = 0 then (j34 s24.1) else (Option.bind (mR s24.1 a0 4) (fun r40 => Option.bind (mR s24.1 a0 4) (fun r41 => grd (okO s24.1 14 r41) (grd (vp_in s1.2 (mL s24.1 r41)) (Option.bind (mR s24.1 a0 4) (fun r44 => grd (okO s24.1 14 r44) (grd (vp_in x33 (mL s24.1 r44)) (Option.bind (f_X5_nearest s24.1 a0 x33 s24.2) (fun q47 => grd (okO s24.1 14 r40) (grd (vp_in s1.2 (mL s24.1 r40)) (bv (wI s24.1 r40 s1.2.toNatClampNeg (mmin (mI s24.1 r41 s1.2.toNatClampNeg) ((mI s24.1 r44 x33.toNatClampNeg) + q47))) (fun M52 => j34 M52))))))))))))))))) (M20, 0)) (fun (x31 : Mem) => bv (s1.2 + 1 : Int32) (fun x57 => some (.inl (x31, x57)))))))) (fun j14 => if q11 = 1 then (j14 0) else (j14 1000000))))))) (M, 1)) (fun (x7 : Mem) => some x7)
abbrev Y_X5_workFewest : Sta := (RX5, "workFewest", cX5_workFewest, 4, none, 2)
set_option maxRecDepth 100000 in
set_option maxHeartbeats 8000000 in
theorem t_X5_workFewest {l : Launch} {G : Gh} {M : Mem} {a0 : Nat} {q : Mem} (h : f_X5_workFewest M a0 = some q) : Ctr l G yX5_workFewest Y_X5_workFewest M [.ref (gh G + a0)] q (none) := by
  refine Ctr.of (Y := Y_X5_workFewest) (L := [some (.ref (gh G + a0)), none, none, none]) (t := Option.bind (f_X5_workFewest M a0) (fun q => some (q, (none : Option Value)))) (by decide) rfl rfl (nle rfl) (Lof_in 3 _ rfl) (fun X hG hl => ?_) (by rw [h]; rfl)
  subst hG
  subst hl
  unfold f_X5_workFewest
  refine s_iconst (pc := 0) 1 dX5_workFewest_0 kc_1 ?_
  refine s_istore_n (pc := 1) 1 dX5_workFewest_1 rfl (nlt rfl) rfl (L' := [some (.ref (gh (xG X) + a0)), some (.int 1), none, none]) rfl ?_
  refine s_drop (L' := [some (.ref (gh (xG X) + a0)), some (.int 1), none, none]) ?_ (And.intro rfl (And.intro rfl trivial))
  refine s_loop1 M (fun s1 : Mem × Int32 => s1.1) (fun s1 : Mem × Int32 => [some (.ref (gh (xG X) + a0)), some (.int s1.2), none, none]) (fun x7 : Mem => x7) 99 (fun x7 : Mem => [none, none, none, none]) (fun x7 hx8 => ?_) (fun T3 R5 hT4 hR6 s1 hs2 => ?_) (M, 1) Le.rf
  · show S0 X _ x7 99 [none, none, none, none] [] _
    exact s_vret rfl dX5_workFewest_99
  · show S0 X _ s1.1 2 [some (.ref (gh (xG X) + a0)), some (.int s1.2), none, none] [] _
    refine s_iload_n (pc := 2) 1 dX5_workFewest_2 rfl rfl ?_
    refine s_iconst (pc := 3) 1 dX5_workFewest_3 kc_1 ?_
    refine s_aload_n (pc := 4) 0 dX5_workFewest_4 rfl rfl ?_
    refine s_grd (fun o9 => ?_)
    refine s_geti (pc := 5) F_5 7 rfl o9 dX5_workFewest_5 kf_X5_40 ?_
    refine s_ishl (pc := 8) dX5_workFewest_8 ?_
    refine s_icge (pc := 9) 99 dX5_workFewest_9 rfl ?_ ?_
    · exact s_drop (hR6 s1.1 hs2) trivial
    · refine s_aload_n (pc := 12) 0 dX5_workFewest_12 rfl rfl ?_
      refine s_geto (pc := 13) F_5 4 rfl o9 dX5_workFewest_13 kf_X5_24 ?_
      refine s_rvB (fun r10 => ?_)
      refine s_iload_n (pc := 16) 1 dX5_workFewest_16 rfl rfl ?_
      refine s_iload_n (pc := 17) 1 dX5_workFewest_17 rfl rfl ?_
      refine s_bind (fun q11 hq12 => ?_)
      have hC13 := t_J6_bitCount_0f7a4 (l := xl X) (G := xG X) (M := s1.1) hq12
      refine s_callS (pc := 18) (As := [.int s1.2]) (st := [.int s1.2, .ref (gh (xG X) + r10)]) cl_J6_bitCount_0f7a4 wt_J6_bitCount_0f7a4 km_X5_64 rfl rfl (nle rfl) (nle rfl) (nle rfl) dX5_workFewest_18 hC13 ?_
      show S0 X _ s1.1 21 [some (.ref (gh (xG X) + a0)), some (.int s1.2), none, none] [.int q11, .int s1.2, .ref (gh (xG X) + r10)] _
      refine s_iconst (pc := 21) 1 dX5_workFewest_21 kc_1 ?_
      refine s_join s1.1 (fun s15 : Int32 => s1.1) 31 (fun s15 : Int32 => [some (.ref (gh (xG X) + a0)), some (.int s1.2), none, none]) (fun s15 : Int32 => [.int s15, .int s1.2, .ref (gh (xG X) + r10)]) (fun s15 hs16 => ?_) (fun j14 hj17 => ?_)
      · show S0 X _ s1.1 31 [some (.ref (gh (xG X) + a0)), some (.int s1.2), none, none] [.int s15, .int s1.2, .ref (gh (xG X) + r10)] _
        refine s_grd (fun o18 => ?_)
        refine s_grd (fun i19 => ?_)
        refine s_iast (pc := 31) o18 i19 dX5_workFewest_31 (fun M20 hM21 => ?_)
        have h22 := le_wI hM21
        have o23 := h22.ok o9
        refine s_iconst (pc := 32) 0 dX5_workFewest_32 kc_0 ?_
        refine s_istore_n (pc := 33) 2 dX5_workFewest_33 rfl (nlt rfl) rfl (L' := [some (.ref (gh (xG X) + a0)), some (.int s1.2), some (.int 0), none]) rfl ?_
        refine s_drop (L' := [some (.ref (gh (xG X) + a0)), some (.int s1.2), some (.int 0), none]) ?_ (And.intro rfl (And.intro rfl (And.intro rfl trivial)))
        refine s_loop1 M20 (fun s24 : Mem × Int32 => s24.1) (fun s24 : Mem × Int32 => [some (.ref (gh (xG X) + a0)), some (.int s1.2), some (.int s24.2), none]) (fun x31 : Mem => x31) 93 (fun x31 : Mem => [some (.ref (gh (xG X) + a0)), some (.int s1.2), none, none]) (fun x31 hx32 => ?_) (fun T26 R28 hT27 hR29 s24 hs25 => ?_) (M20, 0) Le.rf
        · show S0 X _ x31 93 [some (.ref (gh (xG X) + a0)), some (.int s1.2), none, none] [] _
          have o56 := hx32.ok o23
          refine s_iinc (pc := 93) dX5_workFewest_93 rfl (v := s1.2 + 1) (congrArg (fun z : Int32 => s1.2 + z) kc_1) (nlt rfl) rfl (L' := [some (.ref (gh (xG X) + a0)), some (.int (s1.2 + 1)), none, none]) rfl ?_
          refine s_bv (fun x57 : Int32 => [some (.ref (gh (xG X) + a0)), some (.int x57), none, none]) (fun x57 => ?_) rfl
          refine s_goto (pc := 96) 2 dX5_workFewest_96 rfl ?_
          exact s_drop (hT4 (x31, x57) (hs2.tr (h22.tr hx32))) (And.intro rfl (And.intro rfl trivial))
        · show S0 X _ s24.1 34 [some (.ref (gh (xG X) + a0)), some (.int s1.2), some (.int s24.2), none] [] _
          have o30 := hs25.ok o23
          refine s_iload_n (pc := 34) 2 dX5_workFewest_34 rfl rfl ?_
          refine s_aload_n (pc := 35) 0 dX5_workFewest_35 rfl rfl ?_
          refine s_geti (pc := 36) F_5 7 rfl o30 dX5_workFewest_36 kf_X5_40 ?_
          refine s_icge (pc := 39) 93 dX5_workFewest_39 rfl ?_ ?_
          · exact s_drop (hR29 s24.1 hs25) (And.intro rfl (And.intro rfl trivial))
          · refine s_iload_n (pc := 42) 1 dX5_workFewest_42 rfl rfl ?_
            refine s_iconst (pc := 43) 1 dX5_workFewest_43 kc_1 ?_
            refine s_iload_n (pc := 44) 2 dX5_workFewest_44 rfl rfl ?_
            refine s_ishl (pc := 45) dX5_workFewest_45 ?_
            refine s_iconst (pc := 46) (-1) dX5_workFewest_46 kc_m1 ?_
            refine s_ixor (pc := 47) dX5_workFewest_47 ?_
            refine s_iand (pc := 48) dX5_workFewest_48 ?_
            refine s_istore_n (pc := 49) 3 dX5_workFewest_49 rfl (nlt rfl) rfl (L' := [some (.ref (gh (xG X) + a0)), some (.int s1.2), some (.int s24.2), some (.int (s1.2 &&& ((sl 1 s24.2) ^^^ (-1))))]) rfl ?_
            refine s_bv (fun x33 : Int32 => [some (.ref (gh (xG X) + a0)), some (.int s1.2), some (.int s24.2), some (.int x33)]) (fun x33 => ?_) rfl
            refine s_iload_n (pc := 50) 3 dX5_workFewest_50 rfl rfl ?_
            refine s_iload_n (pc := 51) 1 dX5_workFewest_51 rfl rfl ?_
            refine s_join s24.1 (fun s35 : Mem => s35) 87 (fun s35 : Mem => [some (.ref (gh (xG X) + a0)), some (.int s1.2), some (.int s24.2), none]) (fun s35 : Mem => []) (fun s35 hs36 => ?_) (fun j34 hj37 => ?_)
            · show S0 X _ s35 87 [some (.ref (gh (xG X) + a0)), some (.int s1.2), some (.int s24.2), none] [] _
              have o38 := hs36.ok o30
              refine s_iinc (pc := 87) dX5_workFewest_87 rfl (v := s24.2 + 1) (congrArg (fun z : Int32 => s24.2 + z) kc_1) (nlt rfl) rfl (L' := [some (.ref (gh (xG X) + a0)), some (.int s1.2), some (.int (s24.2 + 1)), none]) rfl ?_
              refine s_bv (fun x39 : Int32 => [some (.ref (gh (xG X) + a0)), some (.int s1.2), some (.int x39), none]) (fun x39 => ?_) rfl
              refine s_goto (pc := 90) 34 dX5_workFewest_90 rfl ?_
              exact s_drop (hT27 (s35, x39) (hs25.tr hs36)) (And.intro rfl (And.intro rfl (And.intro rfl trivial)))
            · refine s_iceq (pc := 52) 87 dX5_workFewest_52 rfl ?_ ?_
              · exact s_drop (hj37 s24.1 Le.rf) (And.intro rfl (And.intro rfl (And.intro rfl trivial)))
              · refine s_iload_n (pc := 55) 3 dX5_workFewest_55 rfl rfl ?_
                refine s_ifeq (pc := 56) 87 dX5_workFewest_56 rfl ?_ ?_
                · exact s_drop (hj37 s24.1 Le.rf) (And.intro rfl (And.intro rfl (And.intro rfl trivial)))
                · refine s_aload_n (pc := 59) 0 dX5_workFewest_59 rfl rfl ?_
                  refine s_geto (pc := 60) F_5 4 rfl o30 dX5_workFewest_60 kf_X5_24 ?_
                  refine s_rvB (fun r40 => ?_)
                  refine s_iload_n (pc := 63) 1 dX5_workFewest_63 rfl rfl ?_
                  refine s_aload_n (pc := 64) 0 dX5_workFewest_64 rfl rfl ?_
                  refine s_geto (pc := 65) F_5 4 rfl o30 dX5_workFewest_65 kf_X5_24 ?_
                  refine s_rvB (fun r41 => ?_)
                  refine s_iload_n (pc := 68) 1 dX5_workFewest_68 rfl rfl ?_
                  refine s_grd (fun o42 => ?_)
                  refine s_grd (fun i43 => ?_)
                  refine s_iald (pc := 69) o42 i43 dX5_workFewest_69 ?_
                  refine s_aload_n (pc := 70) 0 dX5_workFewest_70 rfl rfl ?_
                  refine s_geto (pc := 71) F_5 4 rfl o30 dX5_workFewest_71 kf_X5_24 ?_
                  refine s_rvB (fun r44 => ?_)
                  refine s_iload_n (pc := 74) 3 dX5_workFewest_74 rfl rfl ?_
                  refine s_grd (fun o45 => ?_)
                  refine s_grd (fun i46 => ?_)
                  refine s_iald (pc := 75) o45 i46 dX5_workFewest_75 ?_
                  refine s_aload_n (pc := 76) 0 dX5_workFewest_76 rfl rfl ?_
                  refine s_iload_n (pc := 77) 3 dX5_workFewest_77 rfl rfl ?_
                  refine s_iload_n (pc := 78) 2 dX5_workFewest_78 rfl rfl ?_
                  refine s_bind (fun q47 hq48 => ?_)
                  have hC49 := t_X5_nearest (l := xl X) (G := xG X) hq48
                  refine s_callV (pc := 79) (As := [.int x33, .int s24.2]) (st := [.int (mI s24.1 r44 x33.toNatClampNeg), .int (mI s24.1 r41 s1.2.toNatClampNeg), .int s1.2, .ref (gh (xG X) + r40)]) (nlt rfl) (q := (RX5, TX5, 12)) rfl rfl o30 cl_X5_nearest wi_X5_nearest wl_X5_nearest km_X5_69 rfl rfl (nle rfl) (nle rfl) (nle rfl) dX5_workFewest_79 hC49 ?_
                  show S0 X _ s24.1 82 [some (.ref (gh (xG X) + a0)), some (.int s1.2), some (.int s24.2), some (.int x33)] [.int q47, .int (mI s24.1 r44 x33.toNatClampNeg), .int (mI s24.1 r41 s1.2.toNatClampNeg), .int s1.2, .ref (gh (xG X) + r40)] _
                  refine s_iadd (pc := 82) dX5_workFewest_82 ?_
                  refine s_mmin (pc := 83) km_X5_73 wt_J9_min_7cf53 wn_J9 wc_mmin (nle rfl) (nle rfl) dX5_workFewest_83 ?_
                  refine s_grd (fun o50 => ?_)
                  refine s_grd (fun i51 => ?_)
                  refine s_iast (pc := 86) o50 i51 dX5_workFewest_86 (fun M52 hM53 => ?_)
                  have h54 := le_wI hM53
                  have o55 := h54.ok o30
                  exact s_drop (hj37 M52 h54) (And.intro rfl (And.intro rfl (And.intro rfl trivial)))
      · refine s_icne (pc := 22) 29 dX5_workFewest_22 rfl ?_ ?_
        · refine s_ldc (pc := 29) dX5_workFewest_29 ki_X5_43 ?_
          exact s_drop (hj17 1000000 Le.rf) (And.intro rfl (And.intro rfl trivial))
        · refine s_iconst (pc := 25) 0 dX5_workFewest_25 kc_0 ?_
          refine s_goto (pc := 26) 31 dX5_workFewest_26 rfl ?_
          exact s_drop (hj17 0 Le.rf) (And.intro rfl (And.intro rfl trivial))
set_option maxRecDepth 100000 in
set_option maxHeartbeats 8000000 in
noncomputable def f_X5_workFloor (M : Mem) (a0 : Nat) : Option Mem :=
  grd (okO M 5 a0) (bv ((sl 1 (mI M a0 7)) - 1 : Int32) (fun x2 => Option.bind (mR M a0 5) (fun r3 => grd (okO M 14 r3) (grd (vp_in (mI M a0 7) (mL M r3)) (bv (wI M r3 (mI M a0 7).toNatClampNeg 0) (fun M6 => Option.bind (mR M6 a0 6) (fun r10 => grd (okO M6 14 r10) (grd (vp_in (mI M6 a0 7) (mL M6 r10)) (bv (wI M6 r10 (mI M6 a0 7).toNatClampNeg 0) (fun M13 => bv ((mI M13 a0 7) - 1 : Int32) (fun x17 => Option.bind (loopO (σ := Mem × Int32) (ρ := Mem) (fun s18 => if s18.2 < 0 then (some (.inr s18.1)) else (Option.bind (f_X5_nearest s18.1 a0 (x2 &&& ((sl 1 s18.2) ^^^ (-1))) s18.2) (fun q27 => Option.bind (mR s18.1 a0 5) (fun r30 => Option.bind (mR s18.1 a0 5) (fun r31 => grd (okO s18.1 14 r31) (grd (vp_in (s18.2 + 1) (mL s18.1 r31)) (grd (okO s18.1 14 r30) (grd (vp_in s18.2 (mL s18.1 r30)) (bv (wI s18.1 r30 s18.2.toNatClampNeg ((mI s18.1 r31 (s18.2 + 1).toNatClampNeg) + q27)) (fun M36 => Option.bind (mR M36 a0 6) (fun r40 => Option.bind (mR M36 a0 6) (fun r41 => grd (okO M36 14 r41) (grd (vp_in (s18.2 + 1) (mL M36 r41)) (grd (okO M36 14 r40) (grd (vp_in s18.2 (mL M36 r40)) (bv (wI M36 r40 s18.2.toNatClampNeg (mmax (mI M36 r41 (s18.2 + 1).toNatClampNeg) q27)) (fun M46 => bv (s18.2 + (-1) : Int32) (fun x50 => some (.inl (M46, x50)))))))))))))))))))) (M13, x17)) (fun (x25 : Mem) => some x25))))))))))))
abbrev Y_X5_workFloor : Sta := (RX5, "workFloor", cX5_workFloor, 4, none, 2)
set_option maxRecDepth 100000 in
set_option maxHeartbeats 8000000 in
theorem t_X5_workFloor {l : Launch} {G : Gh} {M : Mem} {a0 : Nat} {q : Mem} (h : f_X5_workFloor M a0 = some q) : Ctr l G yX5_workFloor Y_X5_workFloor M [.ref (gh G + a0)] q (none) := by
  refine Ctr.of (Y := Y_X5_workFloor) (L := [some (.ref (gh G + a0)), none, none, none]) (t := Option.bind (f_X5_workFloor M a0) (fun q => some (q, (none : Option Value)))) (by decide) rfl rfl (nle rfl) (Lof_in 3 _ rfl) (fun X hG hl => ?_) (by rw [h]; rfl)
  subst hG
  subst hl
  unfold f_X5_workFloor
  refine s_iconst (pc := 0) 1 dX5_workFloor_0 kc_1 ?_
  refine s_aload_n (pc := 1) 0 dX5_workFloor_1 rfl rfl ?_
  refine s_grd (fun o1 => ?_)
  refine s_geti (pc := 2) F_5 7 rfl o1 dX5_workFloor_2 kf_X5_40 ?_
  refine s_ishl (pc := 5) dX5_workFloor_5 ?_
  refine s_iconst (pc := 6) 1 dX5_workFloor_6 kc_1 ?_
  refine s_isub (pc := 7) dX5_workFloor_7 ?_
  refine s_istore_n (pc := 8) 1 dX5_workFloor_8 rfl (nlt rfl) rfl (L' := [some (.ref (gh (xG X) + a0)), some (.int ((sl 1 (mI M a0 7)) - 1)), none, none]) rfl ?_
  refine s_bv (fun x2 : Int32 => [some (.ref (gh (xG X) + a0)), some (.int x2), none, none]) (fun x2 => ?_) rfl
  refine s_aload_n (pc := 9) 0 dX5_workFloor_9 rfl rfl ?_
  refine s_geto (pc := 10) F_5 5 rfl o1 dX5_workFloor_10 kf_X5_27 ?_
  refine s_rvB (fun r3 => ?_)
  refine s_aload_n (pc := 13) 0 dX5_workFloor_13 rfl rfl ?_
  refine s_geti (pc := 14) F_5 7 rfl o1 dX5_workFloor_14 kf_X5_40 ?_
  refine s_iconst (pc := 17) 0 dX5_workFloor_17 kc_0 ?_
  refine s_grd (fun o4 => ?_)
  refine s_grd (fun i5 => ?_)
  refine s_iast (pc := 18) o4 i5 dX5_workFloor_18 (fun M6 hM7 => ?_)
  have h8 := le_wI hM7
  have o9 := h8.ok o1
  refine s_aload_n (pc := 19) 0 dX5_workFloor_19 rfl rfl ?_
  refine s_geto (pc := 20) F_5 6 rfl o9 dX5_workFloor_20 kf_X5_30 ?_
  refine s_rvB (fun r10 => ?_)
  refine s_aload_n (pc := 23) 0 dX5_workFloor_23 rfl rfl ?_
  refine s_geti (pc := 24) F_5 7 rfl o9 dX5_workFloor_24 kf_X5_40 ?_
  refine s_iconst (pc := 27) 0 dX5_workFloor_27 kc_0 ?_
  refine s_grd (fun o11 => ?_)
  refine s_grd (fun i12 => ?_)
  refine s_iast (pc := 28) o11 i12 dX5_workFloor_28 (fun M13 hM14 => ?_)
  have h15 := le_wI hM14
  have o16 := h15.ok o9
  refine s_aload_n (pc := 29) 0 dX5_workFloor_29 rfl rfl ?_
  refine s_geti (pc := 30) F_5 7 rfl o16 dX5_workFloor_30 kf_X5_40 ?_
  refine s_iconst (pc := 33) 1 dX5_workFloor_33 kc_1 ?_
  refine s_isub (pc := 34) dX5_workFloor_34 ?_
  refine s_istore_n (pc := 35) 2 dX5_workFloor_35 rfl (nlt rfl) rfl (L' := [some (.ref (gh (xG X) + a0)), some (.int x2), some (.int ((mI M13 a0 7) - 1)), none]) rfl ?_
  refine s_bv (fun x17 : Int32 => [some (.ref (gh (xG X) + a0)), some (.int x2), some (.int x17), none]) (fun x17 => ?_) rfl
  refine s_drop (L' := [some (.ref (gh (xG X) + a0)), some (.int x2), some (.int x17), none]) ?_ (And.intro rfl (And.intro rfl (And.intro rfl trivial)))
  refine s_loop1 M13 (fun s18 : Mem × Int32 => s18.1) (fun s18 : Mem × Int32 => [some (.ref (gh (xG X) + a0)), some (.int x2), some (.int s18.2), none]) (fun x25 : Mem => x25) 93 (fun x25 : Mem => [none, none, none, none]) (fun x25 hx26 => ?_) (fun T20 R22 hT21 hR23 s18 hs19 => ?_) (M13, x17) Le.rf
  · show S0 X _ x25 93 [none, none, none, none] [] _
    exact s_vret rfl dX5_workFloor_93
  · show S0 X _ s18.1 36 [some (.ref (gh (xG X) + a0)), some (.int x2), some (.int s18.2), none] [] _
    have o24 := hs19.ok o16
    refine s_iload_n (pc := 36) 2 dX5_workFloor_36 rfl rfl ?_
    refine s_iflt (pc := 37) 93 dX5_workFloor_37 rfl ?_ ?_
    · exact s_drop (hR23 s18.1 hs19) trivial
    · refine s_aload_n (pc := 40) 0 dX5_workFloor_40 rfl rfl ?_
      refine s_iload_n (pc := 41) 1 dX5_workFloor_41 rfl rfl ?_
      refine s_iconst (pc := 42) 1 dX5_workFloor_42 kc_1 ?_
      refine s_iload_n (pc := 43) 2 dX5_workFloor_43 rfl rfl ?_
      refine s_ishl (pc := 44) dX5_workFloor_44 ?_
      refine s_iconst (pc := 45) (-1) dX5_workFloor_45 kc_m1 ?_
      refine s_ixor (pc := 46) dX5_workFloor_46 ?_
      refine s_iand (pc := 47) dX5_workFloor_47 ?_
      refine s_iload_n (pc := 48) 2 dX5_workFloor_48 rfl rfl ?_
      refine s_bind (fun q27 hq28 => ?_)
      have hC29 := t_X5_nearest (l := xl X) (G := xG X) hq28
      refine s_callV (pc := 49) (As := [.int (x2 &&& ((sl 1 s18.2) ^^^ (-1))), .int s18.2]) (st := []) (nlt rfl) (q := (RX5, TX5, 12)) rfl rfl o24 cl_X5_nearest wi_X5_nearest wl_X5_nearest km_X5_69 rfl rfl (nle rfl) (nle rfl) (nle rfl) dX5_workFloor_49 hC29 ?_
      show S0 X _ s18.1 52 [some (.ref (gh (xG X) + a0)), some (.int x2), some (.int s18.2), none] [.int q27] _
      refine s_istore_n (pc := 52) 3 dX5_workFloor_52 rfl (nlt rfl) rfl (L' := [some (.ref (gh (xG X) + a0)), some (.int x2), some (.int s18.2), some (.int q27)]) rfl ?_
      refine s_aload_n (pc := 53) 0 dX5_workFloor_53 rfl rfl ?_
      refine s_geto (pc := 54) F_5 5 rfl o24 dX5_workFloor_54 kf_X5_27 ?_
      refine s_rvB (fun r30 => ?_)
      refine s_iload_n (pc := 57) 2 dX5_workFloor_57 rfl rfl ?_
      refine s_aload_n (pc := 58) 0 dX5_workFloor_58 rfl rfl ?_
      refine s_geto (pc := 59) F_5 5 rfl o24 dX5_workFloor_59 kf_X5_27 ?_
      refine s_rvB (fun r31 => ?_)
      refine s_iload_n (pc := 62) 2 dX5_workFloor_62 rfl rfl ?_
      refine s_iconst (pc := 63) 1 dX5_workFloor_63 kc_1 ?_
      refine s_iadd (pc := 64) dX5_workFloor_64 ?_
      refine s_grd (fun o32 => ?_)
      refine s_grd (fun i33 => ?_)
      refine s_iald (pc := 65) o32 i33 dX5_workFloor_65 ?_
      refine s_iload_n (pc := 66) 3 dX5_workFloor_66 rfl rfl ?_
      refine s_iadd (pc := 67) dX5_workFloor_67 ?_
      refine s_grd (fun o34 => ?_)
      refine s_grd (fun i35 => ?_)
      refine s_iast (pc := 68) o34 i35 dX5_workFloor_68 (fun M36 hM37 => ?_)
      have h38 := le_wI hM37
      have o39 := h38.ok o24
      refine s_aload_n (pc := 69) 0 dX5_workFloor_69 rfl rfl ?_
      refine s_geto (pc := 70) F_5 6 rfl o39 dX5_workFloor_70 kf_X5_30 ?_
      refine s_rvB (fun r40 => ?_)
      refine s_iload_n (pc := 73) 2 dX5_workFloor_73 rfl rfl ?_
      refine s_aload_n (pc := 74) 0 dX5_workFloor_74 rfl rfl ?_
      refine s_geto (pc := 75) F_5 6 rfl o39 dX5_workFloor_75 kf_X5_30 ?_
      refine s_rvB (fun r41 => ?_)
      refine s_iload_n (pc := 78) 2 dX5_workFloor_78 rfl rfl ?_
      refine s_iconst (pc := 79) 1 dX5_workFloor_79 kc_1 ?_
      refine s_iadd (pc := 80) dX5_workFloor_80 ?_
      refine s_grd (fun o42 => ?_)
      refine s_grd (fun i43 => ?_)
      refine s_iald (pc := 81) o42 i43 dX5_workFloor_81 ?_
      refine s_iload_n (pc := 82) 3 dX5_workFloor_82 rfl rfl ?_
      refine s_mmax (pc := 83) km_X5_78 wt_J9_max_7cf53 wn_J9 wc_mmax (nle rfl) (nle rfl) dX5_workFloor_83 ?_
      refine s_grd (fun o44 => ?_)
      refine s_grd (fun i45 => ?_)
      refine s_iast (pc := 86) o44 i45 dX5_workFloor_86 (fun M46 hM47 => ?_)
      have h48 := le_wI hM47
      have o49 := h48.ok o39
      refine s_iinc (pc := 87) dX5_workFloor_87 rfl (v := s18.2 + (-1)) (congrArg (fun z : Int32 => s18.2 + z) kc_m1) (nlt rfl) rfl (L' := [some (.ref (gh (xG X) + a0)), some (.int x2), some (.int (s18.2 + (-1))), some (.int q27)]) rfl ?_
      refine s_bv (fun x50 : Int32 => [some (.ref (gh (xG X) + a0)), some (.int x2), some (.int x50), some (.int q27)]) (fun x50 => ?_) rfl
      refine s_goto (pc := 90) 36 dX5_workFloor_90 rfl ?_
      exact s_drop (hT21 (M46, x50) (hs19.tr (h38.tr h48))) (And.intro rfl (And.intro rfl (And.intro rfl trivial)))
set_option maxRecDepth 100000 in
set_option maxHeartbeats 8000000 in
noncomputable def f_X6_leftOut (p0 : Int32) (p1 : Int32) : Option Int32 :=
  Option.bind (f_X6_lengthOf p0) (fun q1 => grd (vp_in q1 7) (bv (p0 - (stV q1.toNatClampNeg) : Int32) (fun x5 => Option.bind (loopO (σ := Int32 × Int32 × Int32 × Int32) (ρ := Int32 × Int32) (fun s6 => if q1 ≤ s6.2.2.2 then (some (.inr (s6.2.1, s6.2.2.1))) else (bv (ir s6.1 6 : Int32) (fun x14 => bv (s6.1 / 6 : Int32) (fun x15 => bv (fun (s17 : Int32 × Int32) => bv (s6.2.2.2 + 1 : Int32) (fun x20 => some (.inl (x15, s17.1, s17.2, x20)))) (fun j16 => if x14 = p1 then (j16 (s6.2.1, s6.2.2.1)) else (grd (vp_in s6.2.2.1 6) (bv (s6.2.1 + (x14 * (pwV s6.2.2.1.toNatClampNeg)) : Int32) (fun x22 => bv (s6.2.2.1 + 1 : Int32) (fun x23 => j16 (x22, x23)))))))))) (x5, 0, 0, 0)) (fun (x12 : Int32 × Int32) => grd (vp_in x12.2 7) (some ((stV x12.2.toNatClampNeg) + x12.1))))))
abbrev Y_X6_leftOut : Sta := (RX6, "leftOut", cX6_leftOut, 8, (some .int), 2)
set_option maxRecDepth 100000 in
set_option maxHeartbeats 8000000 in
theorem t_X6_leftOut {l : Launch} {G : Gh} {M : Mem} {p0 : Int32} {p1 : Int32} {q : Int32} (h : f_X6_leftOut p0 p1 = some q) : Ctr l G yX6_leftOut Y_X6_leftOut M [.int p0, .int p1] M (some (.int q)) := by
  refine Ctr.of (Y := Y_X6_leftOut) (L := [some (.int p0), some (.int p1), none, none, none, none, none, none]) (t := Option.bind (f_X6_leftOut p0 p1) (fun q => some (M, some (.int q)))) (by decide) rfl rfl (nle rfl) (Lof_in 6 _ rfl) (fun X hG hl => ?_) (by rw [h]; rfl)
  subst hG
  subst hl
  unfold f_X6_leftOut
  refine s_iload_n (pc := 0) 0 dX6_leftOut_0 rfl rfl ?_
  refine s_bind (fun q1 hq2 => ?_)
  have hC3 := t_X6_lengthOf (l := xl X) (G := xG X) (M := M) hq2
  refine s_callS (pc := 1) (As := [.int p0]) (st := []) cl_X6_lengthOf wt_X6_lengthOf km_X6_25 rfl rfl (nle rfl) (nle rfl) (nle rfl) dX6_leftOut_1 hC3 ?_
  show S0 X _ M 4 [some (.int p0), some (.int p1), none, none, none, none, none, none] [.int q1] _
  refine s_istore_n (pc := 4) 2 dX6_leftOut_4 rfl (nlt rfl) rfl (L' := [some (.int p0), some (.int p1), some (.int q1), none, none, none, none, none]) rfl ?_
  refine s_iload_n (pc := 5) 0 dX6_leftOut_5 rfl rfl ?_
  refine s_start (pc := 6) dX6_leftOut_6 (List.mem_of_getElem? (i := 23) rfl) ?_
  refine s_iload_n (pc := 9) 2 dX6_leftOut_9 rfl rfl ?_
  refine s_grd (fun i4 => ?_)
  refine s_sti (pc := 10) i4 dX6_leftOut_10 ?_
  refine s_isub (pc := 11) dX6_leftOut_11 ?_
  refine s_istore_n (pc := 12) 3 dX6_leftOut_12 rfl (nlt rfl) rfl (L' := [some (.int p0), some (.int p1), some (.int q1), some (.int (p0 - (stV q1.toNatClampNeg))), none, none, none, none]) rfl ?_
  refine s_bv (fun x5 : Int32 => [some (.int p0), some (.int p1), some (.int q1), some (.int x5), none, none, none, none]) (fun x5 => ?_) rfl
  refine s_iconst (pc := 13) 0 dX6_leftOut_13 kc_0 ?_
  refine s_istore (pc := 14) dX6_leftOut_14 (nlt rfl) rfl (L' := [some (.int p0), some (.int p1), some (.int q1), some (.int x5), some (.int 0), none, none, none]) rfl ?_
  refine s_iconst (pc := 16) 0 dX6_leftOut_16 kc_0 ?_
  refine s_istore (pc := 17) dX6_leftOut_17 (nlt rfl) rfl (L' := [some (.int p0), some (.int p1), some (.int q1), some (.int x5), some (.int 0), some (.int 0), none, none]) rfl ?_
  refine s_iconst (pc := 19) 0 dX6_leftOut_19 kc_0 ?_
  refine s_istore (pc := 20) dX6_leftOut_20 (nlt rfl) rfl (L' := [some (.int p0), some (.int p1), some (.int q1), some (.int x5), some (.int 0), some (.int 0), some (.int 0), none]) rfl ?_
  refine s_drop (L' := [none, some (.int p1), some (.int q1), some (.int x5), some (.int 0), some (.int 0), some (.int 0), none]) ?_ (And.intro rfl (And.intro rfl (And.intro rfl (And.intro rfl (And.intro rfl (And.intro rfl trivial))))))
  refine s_loop1 M (fun s6 : Int32 × Int32 × Int32 × Int32 => M) (fun s6 : Int32 × Int32 × Int32 × Int32 => [none, some (.int p1), some (.int q1), some (.int s6.1), some (.int s6.2.1), some (.int s6.2.2.1), some (.int s6.2.2.2), none]) (fun x12 : Int32 × Int32 => M) 68 (fun x12 : Int32 × Int32 => [none, none, none, none, some (.int x12.1), some (.int x12.2), none, none]) (fun x12 hx13 => ?_) (fun T8 R10 hT9 hR11 s6 hs7 => ?_) (x5, 0, 0, 0) Le.rf
  · show S0 X _ M 68 [none, none, none, none, some (.int x12.1), some (.int x12.2), none, none] [] _
    refine s_start (pc := 68) dX6_leftOut_68 (List.mem_of_getElem? (i := 23) rfl) ?_
    refine s_iload (pc := 71) dX6_leftOut_71 rfl ?_
    refine s_grd (fun i24 => ?_)
    refine s_sti (pc := 73) i24 dX6_leftOut_73 ?_
    refine s_iload (pc := 74) dX6_leftOut_74 rfl ?_
    refine s_iadd (pc := 76) dX6_leftOut_76 ?_
    exact s_iret rfl dX6_leftOut_77
  · show S0 X _ M 22 [none, some (.int p1), some (.int q1), some (.int s6.1), some (.int s6.2.1), some (.int s6.2.2.1), some (.int s6.2.2.2), none] [] _
    refine s_iload (pc := 22) dX6_leftOut_22 rfl ?_
    refine s_iload_n (pc := 24) 2 dX6_leftOut_24 rfl rfl ?_
    refine s_icge (pc := 25) 68 dX6_leftOut_25 rfl ?_ ?_
    · exact s_drop (hR11 (s6.2.1, s6.2.2.1) Le.rf) (And.intro rfl (And.intro rfl trivial))
    · refine s_iload_n (pc := 28) 3 dX6_leftOut_28 rfl rfl ?_
      refine s_bipush (pc := 29) 6 dX6_leftOut_29 kb_6 ?_
      refine s_irem (pc := 31) dX6_leftOut_31 (by decide) ?_
      refine s_istore (pc := 32) dX6_leftOut_32 (nlt rfl) rfl (L' := [none, some (.int p1), some (.int q1), some (.int s6.1), some (.int s6.2.1), some (.int s6.2.2.1), some (.int s6.2.2.2), some (.int (ir s6.1 6))]) rfl ?_
      refine s_bv (fun x14 : Int32 => [none, some (.int p1), some (.int q1), some (.int s6.1), some (.int s6.2.1), some (.int s6.2.2.1), some (.int s6.2.2.2), some (.int x14)]) (fun x14 => ?_) rfl
      refine s_iload_n (pc := 34) 3 dX6_leftOut_34 rfl rfl ?_
      refine s_bipush (pc := 35) 6 dX6_leftOut_35 kb_6 ?_
      refine s_idiv (pc := 37) dX6_leftOut_37 (by decide) ?_
      refine s_istore_n (pc := 38) 3 dX6_leftOut_38 rfl (nlt rfl) rfl (L' := [none, some (.int p1), some (.int q1), some (.int (s6.1 / 6)), some (.int s6.2.1), some (.int s6.2.2.1), some (.int s6.2.2.2), some (.int x14)]) rfl ?_
      refine s_bv (fun x15 : Int32 => [none, some (.int p1), some (.int q1), some (.int x15), some (.int s6.2.1), some (.int s6.2.2.1), some (.int s6.2.2.2), some (.int x14)]) (fun x15 => ?_) rfl
      refine s_iload (pc := 39) dX6_leftOut_39 rfl ?_
      refine s_iload_n (pc := 41) 1 dX6_leftOut_41 rfl rfl ?_
      refine s_join M (fun s17 : Int32 × Int32 => M) 62 (fun s17 : Int32 × Int32 => [none, some (.int p1), some (.int q1), some (.int x15), some (.int s17.1), some (.int s17.2), some (.int s6.2.2.2), none]) (fun s17 : Int32 × Int32 => []) (fun s17 hs18 => ?_) (fun j16 hj19 => ?_)
      · show S0 X _ M 62 [none, some (.int p1), some (.int q1), some (.int x15), some (.int s17.1), some (.int s17.2), some (.int s6.2.2.2), none] [] _
        refine s_iinc (pc := 62) dX6_leftOut_62 rfl (v := s6.2.2.2 + 1) (congrArg (fun z : Int32 => s6.2.2.2 + z) kc_1) (nlt rfl) rfl (L' := [none, some (.int p1), some (.int q1), some (.int x15), some (.int s17.1), some (.int s17.2), some (.int (s6.2.2.2 + 1)), none]) rfl ?_
        refine s_bv (fun x20 : Int32 => [none, some (.int p1), some (.int q1), some (.int x15), some (.int s17.1), some (.int s17.2), some (.int x20), none]) (fun x20 => ?_) rfl
        refine s_goto (pc := 65) 22 dX6_leftOut_65 rfl ?_
        exact s_drop (hT9 (x15, s17.1, s17.2, x20) Le.rf) (And.intro rfl (And.intro rfl (And.intro rfl (And.intro rfl (And.intro rfl (And.intro rfl trivial))))))
      · refine s_iceq (pc := 42) 62 dX6_leftOut_42 rfl ?_ ?_
        · exact s_drop (hj19 (s6.2.1, s6.2.2.1) Le.rf) (And.intro rfl (And.intro rfl (And.intro rfl (And.intro rfl (And.intro rfl (And.intro rfl trivial))))))
        · refine s_iload (pc := 45) dX6_leftOut_45 rfl ?_
          refine s_iload (pc := 47) dX6_leftOut_47 rfl ?_
          refine s_power (pc := 49) dX6_leftOut_49 (List.mem_of_getElem? (i := 22) rfl) ?_
          refine s_iload (pc := 52) dX6_leftOut_52 rfl ?_
          refine s_grd (fun i21 => ?_)
          refine s_powi (pc := 54) i21 dX6_leftOut_54 ?_
          refine s_imul (pc := 55) dX6_leftOut_55 ?_
          refine s_iadd (pc := 56) dX6_leftOut_56 ?_
          refine s_istore (pc := 57) dX6_leftOut_57 (nlt rfl) rfl (L' := [none, some (.int p1), some (.int q1), some (.int x15), some (.int (s6.2.1 + (x14 * (pwV s6.2.2.1.toNatClampNeg)))), some (.int s6.2.2.1), some (.int s6.2.2.2), some (.int x14)]) rfl ?_
          refine s_bv (fun x22 : Int32 => [none, some (.int p1), some (.int q1), some (.int x15), some (.int x22), some (.int s6.2.2.1), some (.int s6.2.2.2), some (.int x14)]) (fun x22 => ?_) rfl
          refine s_iinc (pc := 59) dX6_leftOut_59 rfl (v := s6.2.2.1 + 1) (congrArg (fun z : Int32 => s6.2.2.1 + z) kc_1) (nlt rfl) rfl (L' := [none, some (.int p1), some (.int q1), some (.int x15), some (.int x22), some (.int (s6.2.2.1 + 1)), some (.int s6.2.2.2), some (.int x14)]) rfl ?_
          refine s_bv (fun x23 : Int32 => [none, some (.int p1), some (.int q1), some (.int x15), some (.int x22), some (.int x23), some (.int s6.2.2.2), some (.int x14)]) (fun x23 => ?_) rfl
          exact s_drop (hj19 (x22, x23) Le.rf) (And.intro rfl (And.intro rfl (And.intro rfl (And.intro rfl (And.intro rfl (And.intro rfl trivial))))))
set_option maxRecDepth 100000 in
set_option maxHeartbeats 8000000 in
noncomputable def f_X6_load (M : Mem) (a0 : Nat) (p1 : Int32) : Option Mem :=
  Option.bind (f_X6_lengthOf p1) (fun q1 => grd (okO M 6 a0) (bv (wI M a0 2 q1) (fun M5 => grd (vp_in (mI M5 a0 2) 7) (bv (wI M5 a0 3 (p1 - (stV (mI M5 a0 2).toNatClampNeg))) (fun M10 => Option.bind (loopO (σ := Mem × Int32) (ρ := Mem) (fun s14 => if 6 ≤ s14.2 then (some (.inr s14.1)) else (Option.bind (mR s14.1 a0 1) (fun r23 => grd (okO s14.1 14 r23) (grd (vp_in s14.2 (mL s14.1 r23)) (bv (wI s14.1 r23 s14.2.toNatClampNeg 0) (fun M26 => bv (s14.2 + 1 : Int32) (fun x30 => some (.inl (M26, x30))))))))) (M10, 0)) (fun (x21 : Mem) => bv (mI x21 a0 3 : Int32) (fun x32 => bv ((mI x21 a0 2) - 1 : Int32) (fun x33 => Option.bind (loopO (σ := Mem × Int32 × Int32) (ρ := Mem) (fun s34 => if s34.2.2 < 0 then (some (.inr s34.1)) else (bv (ir s34.2.1 6 : Int32) (fun x43 => Option.bind (mR s34.1 a0 0) (fun r44 => grd (okO s34.1 14 r44) (grd (vp_in s34.2.2 (mL s34.1 r44)) (bv (wI s34.1 r44 s34.2.2.toNatClampNeg x43) (fun M47 => Option.bind (mR M47 a0 1) (fun r51 => grd (okO M47 14 r51) (grd (vp_in x43 (mL M47 r51)) (bv (wI M47 r51 x43.toNatClampNeg ((mI M47 r51 x43.toNatClampNeg) + 1)) (fun M54 => bv (s34.2.1 / 6 : Int32) (fun x58 => bv (s34.2.2 + (-1) : Int32) (fun x59 => some (.inl (M54, x58, x59))))))))))))))) (x21, x32, x33)) (fun (x41 : Mem) => some x41)))))))))
abbrev Y_X6_load : Sta := (RX6, "load", cX6_load, 5, none, 2)
set_option maxRecDepth 100000 in
set_option maxHeartbeats 8000000 in
theorem t_X6_load {l : Launch} {G : Gh} {M : Mem} {a0 : Nat} {p1 : Int32} {q : Mem} (h : f_X6_load M a0 p1 = some q) : Ctr l G yX6_load Y_X6_load M [.ref (gh G + a0), .int p1] q (none) := by
  refine Ctr.of (Y := Y_X6_load) (L := [some (.ref (gh G + a0)), some (.int p1), none, none, none]) (t := Option.bind (f_X6_load M a0 p1) (fun q => some (q, (none : Option Value)))) (by decide) rfl rfl (nle rfl) (Lof_in 3 _ rfl) (fun X hG hl => ?_) (by rw [h]; rfl)
  subst hG
  subst hl
  unfold f_X6_load
  refine s_aload_n (pc := 0) 0 dX6_load_0 rfl rfl ?_
  refine s_iload_n (pc := 1) 1 dX6_load_1 rfl rfl ?_
  refine s_bind (fun q1 hq2 => ?_)
  have hC3 := t_X6_lengthOf (l := xl X) (G := xG X) (M := M) hq2
  refine s_callS (pc := 2) (As := [.int p1]) (st := [.ref (gh (xG X) + a0)]) cl_X6_lengthOf wt_X6_lengthOf km_X6_25 rfl rfl (nle rfl) (nle rfl) (nle rfl) dX6_load_2 hC3 ?_
  show S0 X _ M 5 [some (.ref (gh (xG X) + a0)), some (.int p1), none, none, none] [.int q1, .ref (gh (xG X) + a0)] _
  refine s_grd (fun o4 => ?_)
  refine s_puti (pc := 5) F_6 2 rfl o4 rfl rfl rfl dX6_load_5 kf_X6_29 (fun M5 hM6 => ?_)
  have h7 := le_wI hM6
  have o8 := h7.ok o4
  refine s_aload_n (pc := 8) 0 dX6_load_8 rfl rfl ?_
  refine s_iload_n (pc := 9) 1 dX6_load_9 rfl rfl ?_
  refine s_start (pc := 10) dX6_load_10 (List.mem_of_getElem? (i := 23) rfl) ?_
  refine s_aload_n (pc := 13) 0 dX6_load_13 rfl rfl ?_
  refine s_geti (pc := 14) F_6 2 rfl o8 dX6_load_14 kf_X6_29 ?_
  refine s_grd (fun i9 => ?_)
  refine s_sti (pc := 17) i9 dX6_load_17 ?_
  refine s_isub (pc := 18) dX6_load_18 ?_
  refine s_puti (pc := 19) F_6 3 rfl o8 rfl rfl rfl dX6_load_19 kf_X6_33 (fun M10 hM11 => ?_)
  have h12 := le_wI hM11
  have o13 := h12.ok o8
  refine s_iconst (pc := 22) 0 dX6_load_22 kc_0 ?_
  refine s_istore_n (pc := 23) 2 dX6_load_23 rfl (nlt rfl) rfl (L' := [some (.ref (gh (xG X) + a0)), some (.int p1), some (.int 0), none, none]) rfl ?_
  refine s_drop (L' := [some (.ref (gh (xG X) + a0)), none, some (.int 0), none, none]) ?_ (And.intro rfl (And.intro rfl trivial))
  refine s_loop1 M10 (fun s14 : Mem × Int32 => s14.1) (fun s14 : Mem × Int32 => [some (.ref (gh (xG X) + a0)), none, some (.int s14.2), none, none]) (fun x21 : Mem => x21) 43 (fun x21 : Mem => [some (.ref (gh (xG X) + a0)), none, none, none, none]) (fun x21 hx22 => ?_) (fun T16 R18 hT17 hR19 s14 hs15 => ?_) (M10, 0) Le.rf
  · show S0 X _ x21 43 [some (.ref (gh (xG X) + a0)), none, none, none, none] [] _
    have o31 := hx22.ok o13
    refine s_aload_n (pc := 43) 0 dX6_load_43 rfl rfl ?_
    refine s_geti (pc := 44) F_6 3 rfl o31 dX6_load_44 kf_X6_33 ?_
    refine s_istore_n (pc := 47) 2 dX6_load_47 rfl (nlt rfl) rfl (L' := [some (.ref (gh (xG X) + a0)), none, some (.int (mI x21 a0 3)), none, none]) rfl ?_
    refine s_bv (fun x32 : Int32 => [some (.ref (gh (xG X) + a0)), none, some (.int x32), none, none]) (fun x32 => ?_) rfl
    refine s_aload_n (pc := 48) 0 dX6_load_48 rfl rfl ?_
    refine s_geti (pc := 49) F_6 2 rfl o31 dX6_load_49 kf_X6_29 ?_
    refine s_iconst (pc := 52) 1 dX6_load_52 kc_1 ?_
    refine s_isub (pc := 53) dX6_load_53 ?_
    refine s_istore_n (pc := 54) 3 dX6_load_54 rfl (nlt rfl) rfl (L' := [some (.ref (gh (xG X) + a0)), none, some (.int x32), some (.int ((mI x21 a0 2) - 1)), none]) rfl ?_
    refine s_bv (fun x33 : Int32 => [some (.ref (gh (xG X) + a0)), none, some (.int x32), some (.int x33), none]) (fun x33 => ?_) rfl
    refine s_drop (L' := [some (.ref (gh (xG X) + a0)), none, some (.int x32), some (.int x33), none]) ?_ (And.intro rfl (And.intro rfl (And.intro rfl trivial)))
    refine s_loop1 x21 (fun s34 : Mem × Int32 × Int32 => s34.1) (fun s34 : Mem × Int32 × Int32 => [some (.ref (gh (xG X) + a0)), none, some (.int s34.2.1), some (.int s34.2.2), none]) (fun x41 : Mem => x41) 95 (fun x41 : Mem => [none, none, none, none, none]) (fun x41 hx42 => ?_) (fun T36 R38 hT37 hR39 s34 hs35 => ?_) (x21, x32, x33) Le.rf
    · show S0 X _ x41 95 [none, none, none, none, none] [] _
      exact s_vret rfl dX6_load_95
    · show S0 X _ s34.1 55 [some (.ref (gh (xG X) + a0)), none, some (.int s34.2.1), some (.int s34.2.2), none] [] _
      have o40 := hs35.ok o31
      refine s_iload_n (pc := 55) 3 dX6_load_55 rfl rfl ?_
      refine s_iflt (pc := 56) 95 dX6_load_56 rfl ?_ ?_
      · exact s_drop (hR39 s34.1 hs35) trivial
      · refine s_iload_n (pc := 59) 2 dX6_load_59 rfl rfl ?_
        refine s_bipush (pc := 60) 6 dX6_load_60 kb_6 ?_
        refine s_irem (pc := 62) dX6_load_62 (by decide) ?_
        refine s_istore (pc := 63) dX6_load_63 (nlt rfl) rfl (L' := [some (.ref (gh (xG X) + a0)), none, some (.int s34.2.1), some (.int s34.2.2), some (.int (ir s34.2.1 6))]) rfl ?_
        refine s_bv (fun x43 : Int32 => [some (.ref (gh (xG X) + a0)), none, some (.int s34.2.1), some (.int s34.2.2), some (.int x43)]) (fun x43 => ?_) rfl
        refine s_aload_n (pc := 65) 0 dX6_load_65 rfl rfl ?_
        refine s_geto (pc := 66) F_6 0 rfl o40 dX6_load_66 kf_X6_9 ?_
        refine s_rvB (fun r44 => ?_)
        refine s_iload_n (pc := 69) 3 dX6_load_69 rfl rfl ?_
        refine s_iload (pc := 70) dX6_load_70 rfl ?_
        refine s_grd (fun o45 => ?_)
        refine s_grd (fun i46 => ?_)
        refine s_iast (pc := 72) o45 i46 dX6_load_72 (fun M47 hM48 => ?_)
        have h49 := le_wI hM48
        have o50 := h49.ok o40
        refine s_aload_n (pc := 73) 0 dX6_load_73 rfl rfl ?_
        refine s_geto (pc := 74) F_6 1 rfl o50 dX6_load_74 kf_X6_15 ?_
        refine s_rvB (fun r51 => ?_)
        refine s_iload (pc := 77) dX6_load_77 rfl ?_
        refine s_dup2 (pc := 79) dX6_load_79 rfl rfl ?_
        refine s_grd (fun o52 => ?_)
        refine s_grd (fun i53 => ?_)
        refine s_iald (pc := 80) o52 i53 dX6_load_80 ?_
        refine s_iconst (pc := 81) 1 dX6_load_81 kc_1 ?_
        refine s_iadd (pc := 82) dX6_load_82 ?_
        refine s_iast (pc := 83) o52 i53 dX6_load_83 (fun M54 hM55 => ?_)
        have h56 := le_wI hM55
        have o57 := h56.ok o50
        refine s_iload_n (pc := 84) 2 dX6_load_84 rfl rfl ?_
        refine s_bipush (pc := 85) 6 dX6_load_85 kb_6 ?_
        refine s_idiv (pc := 87) dX6_load_87 (by decide) ?_
        refine s_istore_n (pc := 88) 2 dX6_load_88 rfl (nlt rfl) rfl (L' := [some (.ref (gh (xG X) + a0)), none, some (.int (s34.2.1 / 6)), some (.int s34.2.2), some (.int x43)]) rfl ?_
        refine s_bv (fun x58 : Int32 => [some (.ref (gh (xG X) + a0)), none, some (.int x58), some (.int s34.2.2), some (.int x43)]) (fun x58 => ?_) rfl
        refine s_iinc (pc := 89) dX6_load_89 rfl (v := s34.2.2 + (-1)) (congrArg (fun z : Int32 => s34.2.2 + z) kc_m1) (nlt rfl) rfl (L' := [some (.ref (gh (xG X) + a0)), none, some (.int x58), some (.int (s34.2.2 + (-1))), some (.int x43)]) rfl ?_
        refine s_bv (fun x59 : Int32 => [some (.ref (gh (xG X) + a0)), none, some (.int x58), some (.int x59), some (.int x43)]) (fun x59 => ?_) rfl
        refine s_goto (pc := 92) 55 dX6_load_92 rfl ?_
        exact s_drop (hT37 (M54, x58, x59) (hs35.tr (h49.tr h56))) (And.intro rfl (And.intro rfl (And.intro rfl trivial)))
  · show S0 X _ s14.1 24 [some (.ref (gh (xG X) + a0)), none, some (.int s14.2), none, none] [] _
    have o20 := hs15.ok o13
    refine s_iload_n (pc := 24) 2 dX6_load_24 rfl rfl ?_
    refine s_bipush (pc := 25) 6 dX6_load_25 kb_6 ?_
    refine s_icge (pc := 27) 43 dX6_load_27 rfl ?_ ?_
    · exact s_drop (hR19 s14.1 hs15) (And.intro rfl trivial)
    · refine s_aload_n (pc := 30) 0 dX6_load_30 rfl rfl ?_
      refine s_geto (pc := 31) F_6 1 rfl o20 dX6_load_31 kf_X6_15 ?_
      refine s_rvB (fun r23 => ?_)
      refine s_iload_n (pc := 34) 2 dX6_load_34 rfl rfl ?_
      refine s_iconst (pc := 35) 0 dX6_load_35 kc_0 ?_
      refine s_grd (fun o24 => ?_)
      refine s_grd (fun i25 => ?_)
      refine s_iast (pc := 36) o24 i25 dX6_load_36 (fun M26 hM27 => ?_)
      have h28 := le_wI hM27
      have o29 := h28.ok o20
      refine s_iinc (pc := 37) dX6_load_37 rfl (v := s14.2 + 1) (congrArg (fun z : Int32 => s14.2 + z) kc_1) (nlt rfl) rfl (L' := [some (.ref (gh (xG X) + a0)), none, some (.int (s14.2 + 1)), none, none]) rfl ?_
      refine s_bv (fun x30 : Int32 => [some (.ref (gh (xG X) + a0)), none, some (.int x30), none, none]) (fun x30 => ?_) rfl
      refine s_goto (pc := 40) 24 dX6_load_40 rfl ?_
      exact s_drop (hT17 (M26, x30) (hs15.tr h28)) (And.intro rfl (And.intro rfl trivial))
set_option maxRecDepth 100000 in
set_option maxHeartbeats 8000000 in
noncomputable def f_X6_numberOf (p0 : Int32) : Option Int32 :=
  if 0 ≤ p0 then (Option.bind (f_X6_lengthOf p0) (fun q1 => grd (vp_in q1 7) (bv (p0 - (stV q1.toNatClampNeg) : Int32) (fun x5 => Option.bind (loopO (σ := Int32 × Int32 × Int32 × Int32) (ρ := Int32) (fun s6 => if q1 ≤ s6.2.2.2 then (some (.inr s6.2.1)) else (bv (s6.2.1 + (((ir s6.1 6) + 1) * s6.2.2.1) : Int32) (fun x14 => bv (s6.2.2.1 * 10 : Int32) (fun x15 => bv (s6.1 / 6 : Int32) (fun x16 => bv (s6.2.2.2 + 1 : Int32) (fun x17 => some (.inl (x16, x14, x15, x17)))))))) (x5, 0, 1, 0)) (fun (x12 : Int32) => some x12))))) else (some (-1))
abbrev Y_X6_numberOf : Sta := (RX6, "numberOf", cX6_numberOf, 6, (some .int), 2)
set_option maxRecDepth 100000 in
set_option maxHeartbeats 8000000 in
theorem t_X6_numberOf {l : Launch} {G : Gh} {M : Mem} {p0 : Int32} {q : Int32} (h : f_X6_numberOf p0 = some q) : Ctr l G yX6_numberOf Y_X6_numberOf M [.int p0] M (some (.int q)) := by
  refine Ctr.of (Y := Y_X6_numberOf) (L := [some (.int p0), none, none, none, none, none]) (t := Option.bind (f_X6_numberOf p0) (fun q => some (M, some (.int q)))) (by decide) rfl rfl (nle rfl) (Lof_in 5 _ rfl) (fun X hG hl => ?_) (by rw [h]; rfl)
  subst hG
  subst hl
  unfold f_X6_numberOf
  refine s_iload_n (pc := 0) 0 dX6_numberOf_0 rfl rfl ?_
  refine s_ifge (pc := 1) 6 dX6_numberOf_1 rfl ?_ ?_
  · refine s_iload_n (pc := 6) 0 dX6_numberOf_6 rfl rfl ?_
    refine s_bind (fun q1 hq2 => ?_)
    have hC3 := t_X6_lengthOf (l := xl X) (G := xG X) (M := M) hq2
    refine s_callS (pc := 7) (As := [.int p0]) (st := []) cl_X6_lengthOf wt_X6_lengthOf km_X6_25 rfl rfl (nle rfl) (nle rfl) (nle rfl) dX6_numberOf_7 hC3 ?_
    show S0 X _ M 10 [some (.int p0), none, none, none, none, none] [.int q1] _
    refine s_istore_n (pc := 10) 1 dX6_numberOf_10 rfl (nlt rfl) rfl (L' := [some (.int p0), some (.int q1), none, none, none, none]) rfl ?_
    refine s_iload_n (pc := 11) 0 dX6_numberOf_11 rfl rfl ?_
    refine s_start (pc := 12) dX6_numberOf_12 (List.mem_of_getElem? (i := 23) rfl) ?_
    refine s_iload_n (pc := 15) 1 dX6_numberOf_15 rfl rfl ?_
    refine s_grd (fun i4 => ?_)
    refine s_sti (pc := 16) i4 dX6_numberOf_16 ?_
    refine s_isub (pc := 17) dX6_numberOf_17 ?_
    refine s_istore_n (pc := 18) 2 dX6_numberOf_18 rfl (nlt rfl) rfl (L' := [some (.int p0), some (.int q1), some (.int (p0 - (stV q1.toNatClampNeg))), none, none, none]) rfl ?_
    refine s_bv (fun x5 : Int32 => [some (.int p0), some (.int q1), some (.int x5), none, none, none]) (fun x5 => ?_) rfl
    refine s_iconst (pc := 19) 0 dX6_numberOf_19 kc_0 ?_
    refine s_istore_n (pc := 20) 3 dX6_numberOf_20 rfl (nlt rfl) rfl (L' := [some (.int p0), some (.int q1), some (.int x5), some (.int 0), none, none]) rfl ?_
    refine s_iconst (pc := 21) 1 dX6_numberOf_21 kc_1 ?_
    refine s_istore (pc := 22) dX6_numberOf_22 (nlt rfl) rfl (L' := [some (.int p0), some (.int q1), some (.int x5), some (.int 0), some (.int 1), none]) rfl ?_
    refine s_iconst (pc := 24) 0 dX6_numberOf_24 kc_0 ?_
    refine s_istore (pc := 25) dX6_numberOf_25 (nlt rfl) rfl (L' := [some (.int p0), some (.int q1), some (.int x5), some (.int 0), some (.int 1), some (.int 0)]) rfl ?_
    refine s_drop (L' := [none, some (.int q1), some (.int x5), some (.int 0), some (.int 1), some (.int 0)]) ?_ (And.intro rfl (And.intro rfl (And.intro rfl (And.intro rfl (And.intro rfl trivial)))))
    refine s_loop1 M (fun s6 : Int32 × Int32 × Int32 × Int32 => M) (fun s6 : Int32 × Int32 × Int32 × Int32 => [none, some (.int q1), some (.int s6.1), some (.int s6.2.1), some (.int s6.2.2.1), some (.int s6.2.2.2)]) (fun x12 : Int32 => M) 63 (fun x12 : Int32 => [none, none, none, some (.int x12), none, none]) (fun x12 hx13 => ?_) (fun T8 R10 hT9 hR11 s6 hs7 => ?_) (x5, 0, 1, 0) Le.rf
    · show S0 X _ M 63 [none, none, none, some (.int x12), none, none] [] _
      refine s_iload_n (pc := 63) 3 dX6_numberOf_63 rfl rfl ?_
      exact s_iret rfl dX6_numberOf_64
    · show S0 X _ M 27 [none, some (.int q1), some (.int s6.1), some (.int s6.2.1), some (.int s6.2.2.1), some (.int s6.2.2.2)] [] _
      refine s_iload (pc := 27) dX6_numberOf_27 rfl ?_
      refine s_iload_n (pc := 29) 1 dX6_numberOf_29 rfl rfl ?_
      refine s_icge (pc := 30) 63 dX6_numberOf_30 rfl ?_ ?_
      · exact s_drop (hR11 s6.2.1 Le.rf) (And.intro rfl trivial)
      · refine s_iload_n (pc := 33) 3 dX6_numberOf_33 rfl rfl ?_
        refine s_iload_n (pc := 34) 2 dX6_numberOf_34 rfl rfl ?_
        refine s_bipush (pc := 35) 6 dX6_numberOf_35 kb_6 ?_
        refine s_irem (pc := 37) dX6_numberOf_37 (by decide) ?_
        refine s_iconst (pc := 38) 1 dX6_numberOf_38 kc_1 ?_
        refine s_iadd (pc := 39) dX6_numberOf_39 ?_
        refine s_iload (pc := 40) dX6_numberOf_40 rfl ?_
        refine s_imul (pc := 42) dX6_numberOf_42 ?_
        refine s_iadd (pc := 43) dX6_numberOf_43 ?_
        refine s_istore_n (pc := 44) 3 dX6_numberOf_44 rfl (nlt rfl) rfl (L' := [none, some (.int q1), some (.int s6.1), some (.int (s6.2.1 + (((ir s6.1 6) + 1) * s6.2.2.1))), some (.int s6.2.2.1), some (.int s6.2.2.2)]) rfl ?_
        refine s_bv (fun x14 : Int32 => [none, some (.int q1), some (.int s6.1), some (.int x14), some (.int s6.2.2.1), some (.int s6.2.2.2)]) (fun x14 => ?_) rfl
        refine s_iload (pc := 45) dX6_numberOf_45 rfl ?_
        refine s_bipush (pc := 47) 10 dX6_numberOf_47 kb_10 ?_
        refine s_imul (pc := 49) dX6_numberOf_49 ?_
        refine s_istore (pc := 50) dX6_numberOf_50 (nlt rfl) rfl (L' := [none, some (.int q1), some (.int s6.1), some (.int x14), some (.int (s6.2.2.1 * 10)), some (.int s6.2.2.2)]) rfl ?_
        refine s_bv (fun x15 : Int32 => [none, some (.int q1), some (.int s6.1), some (.int x14), some (.int x15), some (.int s6.2.2.2)]) (fun x15 => ?_) rfl
        refine s_iload_n (pc := 52) 2 dX6_numberOf_52 rfl rfl ?_
        refine s_bipush (pc := 53) 6 dX6_numberOf_53 kb_6 ?_
        refine s_idiv (pc := 55) dX6_numberOf_55 (by decide) ?_
        refine s_istore_n (pc := 56) 2 dX6_numberOf_56 rfl (nlt rfl) rfl (L' := [none, some (.int q1), some (.int (s6.1 / 6)), some (.int x14), some (.int x15), some (.int s6.2.2.2)]) rfl ?_
        refine s_bv (fun x16 : Int32 => [none, some (.int q1), some (.int x16), some (.int x14), some (.int x15), some (.int s6.2.2.2)]) (fun x16 => ?_) rfl
        refine s_iinc (pc := 57) dX6_numberOf_57 rfl (v := s6.2.2.2 + 1) (congrArg (fun z : Int32 => s6.2.2.2 + z) kc_1) (nlt rfl) rfl (L' := [none, some (.int q1), some (.int x16), some (.int x14), some (.int x15), some (.int (s6.2.2.2 + 1))]) rfl ?_
        refine s_bv (fun x17 : Int32 => [none, some (.int q1), some (.int x16), some (.int x14), some (.int x15), some (.int x17)]) (fun x17 => ?_) rfl
        refine s_goto (pc := 60) 27 dX6_numberOf_60 rfl ?_
        exact s_drop (hT9 (x16, x14, x15, x17) Le.rf) (And.intro rfl (And.intro rfl (And.intro rfl (And.intro rfl (And.intro rfl trivial)))))
  · refine s_iconst (pc := 4) (-1) dX6_numberOf_4 kc_m1 ?_
    exact s_iret rfl dX6_numberOf_5
set_option maxRecDepth 100000 in
set_option maxHeartbeats 8000000 in
noncomputable def f_X6_replaced (M : Mem) (a0 : Nat) (p1 : Int32) (p2 : Int32) : Option Int32 :=
  grd (okO M 6 a0) (Option.bind (f_X6_hasPlace M a0 p1) (fun q2 => if q2 = 0 then (some (-1)) else (if p2 = (-1) then (some (-1)) else (grd (vp_in (mI M a0 2) 7) (Option.bind (mR M a0 0) (fun r6 => grd (okO M 14 r6) (grd (vp_in p1 (mL M r6)) (grd (vp_in (((mI M a0 2) - 1) - p1) 6) (some (((stV (mI M a0 2).toNatClampNeg) + (mI M a0 3)) + ((p2 - (mI M r6 p1.toNatClampNeg)) * (pwV (((mI M a0 2) - 1) - p1).toNatClampNeg))))))))))))
abbrev Y_X6_replaced : Sta := (RX6, "replaced", cX6_replaced, 3, (some .int), 2)
set_option maxRecDepth 100000 in
set_option maxHeartbeats 8000000 in
theorem t_X6_replaced {l : Launch} {G : Gh} {M : Mem} {a0 : Nat} {p1 : Int32} {p2 : Int32} {q : Int32} (h : f_X6_replaced M a0 p1 p2 = some q) : Ctr l G yX6_replaced Y_X6_replaced M [.ref (gh G + a0), .int p1, .int p2] M (some (.int q)) := by
  refine Ctr.of (Y := Y_X6_replaced) (L := [some (.ref (gh G + a0)), some (.int p1), some (.int p2)]) (t := Option.bind (f_X6_replaced M a0 p1 p2) (fun q => some (M, some (.int q)))) (by decide) rfl rfl (nle rfl) (Lof_in 0 _ rfl) (fun X hG hl => ?_) (by rw [h]; rfl)
  subst hG
  subst hl
  unfold f_X6_replaced
  refine s_aload_n (pc := 0) 0 dX6_replaced_0 rfl rfl ?_
  refine s_iload_n (pc := 1) 1 dX6_replaced_1 rfl rfl ?_
  refine s_grd (fun o1 => ?_)
  refine s_bind (fun q2 hq3 => ?_)
  have hC4 := t_X6_hasPlace (l := xl X) (G := xG X) hq3
  refine s_callV (pc := 2) (As := [.int p1]) (st := []) (nlt rfl) (q := (RX6, TX6, 4)) rfl rfl o1 cl_X6_hasPlace wi_X6_hasPlace wl_X6_hasPlace km_X6_36 rfl rfl (nle rfl) (nle rfl) (nle rfl) dX6_replaced_2 hC4 ?_
  show S0 X _ M 5 [some (.ref (gh (xG X) + a0)), some (.int p1), some (.int p2)] [.int q2] _
  refine s_ifeq (pc := 5) 13 dX6_replaced_5 rfl ?_ ?_
  · refine s_iconst (pc := 13) (-1) dX6_replaced_13 kc_m1 ?_
    exact s_iret rfl dX6_replaced_14
  · refine s_iload_n (pc := 8) 2 dX6_replaced_8 rfl rfl ?_
    refine s_iconst (pc := 9) (-1) dX6_replaced_9 kc_m1 ?_
    refine s_icne (pc := 10) 15 dX6_replaced_10 rfl ?_ ?_
    · refine s_start (pc := 15) dX6_replaced_15 (List.mem_of_getElem? (i := 23) rfl) ?_
      refine s_aload_n (pc := 18) 0 dX6_replaced_18 rfl rfl ?_
      refine s_geti (pc := 19) F_6 2 rfl o1 dX6_replaced_19 kf_X6_29 ?_
      refine s_grd (fun i5 => ?_)
      refine s_sti (pc := 22) i5 dX6_replaced_22 ?_
      refine s_aload_n (pc := 23) 0 dX6_replaced_23 rfl rfl ?_
      refine s_geti (pc := 24) F_6 3 rfl o1 dX6_replaced_24 kf_X6_33 ?_
      refine s_iadd (pc := 27) dX6_replaced_27 ?_
      refine s_iload_n (pc := 28) 2 dX6_replaced_28 rfl rfl ?_
      refine s_aload_n (pc := 29) 0 dX6_replaced_29 rfl rfl ?_
      refine s_geto (pc := 30) F_6 0 rfl o1 dX6_replaced_30 kf_X6_9 ?_
      refine s_rvB (fun r6 => ?_)
      refine s_iload_n (pc := 33) 1 dX6_replaced_33 rfl rfl ?_
      refine s_grd (fun o7 => ?_)
      refine s_grd (fun i8 => ?_)
      refine s_iald (pc := 34) o7 i8 dX6_replaced_34 ?_
      refine s_isub (pc := 35) dX6_replaced_35 ?_
      refine s_power (pc := 36) dX6_replaced_36 (List.mem_of_getElem? (i := 22) rfl) ?_
      refine s_aload_n (pc := 39) 0 dX6_replaced_39 rfl rfl ?_
      refine s_geti (pc := 40) F_6 2 rfl o1 dX6_replaced_40 kf_X6_29 ?_
      refine s_iconst (pc := 43) 1 dX6_replaced_43 kc_1 ?_
      refine s_isub (pc := 44) dX6_replaced_44 ?_
      refine s_iload_n (pc := 45) 1 dX6_replaced_45 rfl rfl ?_
      refine s_isub (pc := 46) dX6_replaced_46 ?_
      refine s_grd (fun i9 => ?_)
      refine s_powi (pc := 47) i9 dX6_replaced_47 ?_
      refine s_imul (pc := 48) dX6_replaced_48 ?_
      refine s_iadd (pc := 49) dX6_replaced_49 ?_
      exact s_iret rfl dX6_replaced_50
    · refine s_iconst (pc := 13) (-1) dX6_replaced_13 kc_m1 ?_
      exact s_iret rfl dX6_replaced_14
set_option maxRecDepth 100000 in
set_option maxHeartbeats 8000000 in
noncomputable def f_X6_swapped (M : Mem) (a0 : Nat) (p1 : Int32) : Option Int32 :=
  grd (okO M 6 a0) (Option.bind (f_X6_hasPlace M a0 p1) (fun q2 => if q2 = 0 then (some (-1)) else (Option.bind (f_X6_hasPlace M a0 (p1 + 1)) (fun q5 => if q5 = 0 then (some (-1)) else (Option.bind (mR M a0 0) (fun r8 => grd (okO M 14 r8) (grd (vp_in p1 (mL M r8)) (Option.bind (mR M a0 0) (fun r11 => grd (okO M 14 r11) (grd (vp_in (p1 + 1) (mL M r11)) (if (mI M r8 p1.toNatClampNeg) = (mI M r11 (p1 + 1).toNatClampNeg) then (some (-1)) else (Option.bind (mR M a0 0) (fun r14 => grd (okO M 14 r14) (grd (vp_in (p1 + 1) (mL M r14)) (Option.bind (mR M a0 0) (fun r17 => grd (okO M 14 r17) (grd (vp_in p1 (mL M r17)) (bv ((mI M r14 (p1 + 1).toNatClampNeg) - (mI M r17 p1.toNatClampNeg) : Int32) (fun x20 => grd (vp_in (mI M a0 2) 7) (grd (vp_in (((mI M a0 2) - 1) - p1) 6) (grd (vp_in (((mI M a0 2) - 2) - p1) 6) (some (((stV (mI M a0 2).toNatClampNeg) + (mI M a0 3)) + (x20 * ((pwV (((mI M a0 2) - 1) - p1).toNatClampNeg) - (pwV (((mI M a0 2) - 2) - p1).toNatClampNeg))))))))))))))))))))))))))
abbrev Y_X6_swapped : Sta := (RX6, "swapped", cX6_swapped, 3, (some .int), 2)
set_option maxRecDepth 100000 in
set_option maxHeartbeats 8000000 in
theorem t_X6_swapped {l : Launch} {G : Gh} {M : Mem} {a0 : Nat} {p1 : Int32} {q : Int32} (h : f_X6_swapped M a0 p1 = some q) : Ctr l G yX6_swapped Y_X6_swapped M [.ref (gh G + a0), .int p1] M (some (.int q)) := by
  refine Ctr.of (Y := Y_X6_swapped) (L := [some (.ref (gh G + a0)), some (.int p1), none]) (t := Option.bind (f_X6_swapped M a0 p1) (fun q => some (M, some (.int q)))) (by decide) rfl rfl (nle rfl) (Lof_in 1 _ rfl) (fun X hG hl => ?_) (by rw [h]; rfl)
  subst hG
  subst hl
  unfold f_X6_swapped
  refine s_aload_n (pc := 0) 0 dX6_swapped_0 rfl rfl ?_
  refine s_iload_n (pc := 1) 1 dX6_swapped_1 rfl rfl ?_
  refine s_grd (fun o1 => ?_)
  refine s_bind (fun q2 hq3 => ?_)
  have hC4 := t_X6_hasPlace (l := xl X) (G := xG X) hq3
  refine s_callV (pc := 2) (As := [.int p1]) (st := []) (nlt rfl) (q := (RX6, TX6, 4)) rfl rfl o1 cl_X6_hasPlace wi_X6_hasPlace wl_X6_hasPlace km_X6_36 rfl rfl (nle rfl) (nle rfl) (nle rfl) dX6_swapped_2 hC4 ?_
  show S0 X _ M 5 [some (.ref (gh (xG X) + a0)), some (.int p1), none] [.int q2] _
  refine s_ifeq (pc := 5) 35 dX6_swapped_5 rfl ?_ ?_
  · refine s_iconst (pc := 35) (-1) dX6_swapped_35 kc_m1 ?_
    exact s_iret rfl dX6_swapped_36
  · refine s_aload_n (pc := 8) 0 dX6_swapped_8 rfl rfl ?_
    refine s_iload_n (pc := 9) 1 dX6_swapped_9 rfl rfl ?_
    refine s_iconst (pc := 10) 1 dX6_swapped_10 kc_1 ?_
    refine s_iadd (pc := 11) dX6_swapped_11 ?_
    refine s_bind (fun q5 hq6 => ?_)
    have hC7 := t_X6_hasPlace (l := xl X) (G := xG X) hq6
    refine s_callV (pc := 12) (As := [.int (p1 + 1)]) (st := []) (nlt rfl) (q := (RX6, TX6, 4)) rfl rfl o1 cl_X6_hasPlace wi_X6_hasPlace wl_X6_hasPlace km_X6_36 rfl rfl (nle rfl) (nle rfl) (nle rfl) dX6_swapped_12 hC7 ?_
    show S0 X _ M 15 [some (.ref (gh (xG X) + a0)), some (.int p1), none] [.int q5] _
    refine s_ifeq (pc := 15) 35 dX6_swapped_15 rfl ?_ ?_
    · refine s_iconst (pc := 35) (-1) dX6_swapped_35 kc_m1 ?_
      exact s_iret rfl dX6_swapped_36
    · refine s_aload_n (pc := 18) 0 dX6_swapped_18 rfl rfl ?_
      refine s_geto (pc := 19) F_6 0 rfl o1 dX6_swapped_19 kf_X6_9 ?_
      refine s_rvB (fun r8 => ?_)
      refine s_iload_n (pc := 22) 1 dX6_swapped_22 rfl rfl ?_
      refine s_grd (fun o9 => ?_)
      refine s_grd (fun i10 => ?_)
      refine s_iald (pc := 23) o9 i10 dX6_swapped_23 ?_
      refine s_aload_n (pc := 24) 0 dX6_swapped_24 rfl rfl ?_
      refine s_geto (pc := 25) F_6 0 rfl o1 dX6_swapped_25 kf_X6_9 ?_
      refine s_rvB (fun r11 => ?_)
      refine s_iload_n (pc := 28) 1 dX6_swapped_28 rfl rfl ?_
      refine s_iconst (pc := 29) 1 dX6_swapped_29 kc_1 ?_
      refine s_iadd (pc := 30) dX6_swapped_30 ?_
      refine s_grd (fun o12 => ?_)
      refine s_grd (fun i13 => ?_)
      refine s_iald (pc := 31) o12 i13 dX6_swapped_31 ?_
      refine s_icne (pc := 32) 37 dX6_swapped_32 rfl ?_ ?_
      · refine s_aload_n (pc := 37) 0 dX6_swapped_37 rfl rfl ?_
        refine s_geto (pc := 38) F_6 0 rfl o1 dX6_swapped_38 kf_X6_9 ?_
        refine s_rvB (fun r14 => ?_)
        refine s_iload_n (pc := 41) 1 dX6_swapped_41 rfl rfl ?_
        refine s_iconst (pc := 42) 1 dX6_swapped_42 kc_1 ?_
        refine s_iadd (pc := 43) dX6_swapped_43 ?_
        refine s_grd (fun o15 => ?_)
        refine s_grd (fun i16 => ?_)
        refine s_iald (pc := 44) o15 i16 dX6_swapped_44 ?_
        refine s_aload_n (pc := 45) 0 dX6_swapped_45 rfl rfl ?_
        refine s_geto (pc := 46) F_6 0 rfl o1 dX6_swapped_46 kf_X6_9 ?_
        refine s_rvB (fun r17 => ?_)
        refine s_iload_n (pc := 49) 1 dX6_swapped_49 rfl rfl ?_
        refine s_grd (fun o18 => ?_)
        refine s_grd (fun i19 => ?_)
        refine s_iald (pc := 50) o18 i19 dX6_swapped_50 ?_
        refine s_isub (pc := 51) dX6_swapped_51 ?_
        refine s_istore_n (pc := 52) 2 dX6_swapped_52 rfl (nlt rfl) rfl (L' := [some (.ref (gh (xG X) + a0)), some (.int p1), some (.int ((mI M r14 (p1 + 1).toNatClampNeg) - (mI M r17 p1.toNatClampNeg)))]) rfl ?_
        refine s_bv (fun x20 : Int32 => [some (.ref (gh (xG X) + a0)), some (.int p1), some (.int x20)]) (fun x20 => ?_) rfl
        refine s_start (pc := 53) dX6_swapped_53 (List.mem_of_getElem? (i := 23) rfl) ?_
        refine s_aload_n (pc := 56) 0 dX6_swapped_56 rfl rfl ?_
        refine s_geti (pc := 57) F_6 2 rfl o1 dX6_swapped_57 kf_X6_29 ?_
        refine s_grd (fun i21 => ?_)
        refine s_sti (pc := 60) i21 dX6_swapped_60 ?_
        refine s_aload_n (pc := 61) 0 dX6_swapped_61 rfl rfl ?_
        refine s_geti (pc := 62) F_6 3 rfl o1 dX6_swapped_62 kf_X6_33 ?_
        refine s_iadd (pc := 65) dX6_swapped_65 ?_
        refine s_iload_n (pc := 66) 2 dX6_swapped_66 rfl rfl ?_
        refine s_power (pc := 67) dX6_swapped_67 (List.mem_of_getElem? (i := 22) rfl) ?_
        refine s_aload_n (pc := 70) 0 dX6_swapped_70 rfl rfl ?_
        refine s_geti (pc := 71) F_6 2 rfl o1 dX6_swapped_71 kf_X6_29 ?_
        refine s_iconst (pc := 74) 1 dX6_swapped_74 kc_1 ?_
        refine s_isub (pc := 75) dX6_swapped_75 ?_
        refine s_iload_n (pc := 76) 1 dX6_swapped_76 rfl rfl ?_
        refine s_isub (pc := 77) dX6_swapped_77 ?_
        refine s_grd (fun i22 => ?_)
        refine s_powi (pc := 78) i22 dX6_swapped_78 ?_
        refine s_power (pc := 79) dX6_swapped_79 (List.mem_of_getElem? (i := 22) rfl) ?_
        refine s_aload_n (pc := 82) 0 dX6_swapped_82 rfl rfl ?_
        refine s_geti (pc := 83) F_6 2 rfl o1 dX6_swapped_83 kf_X6_29 ?_
        refine s_iconst (pc := 86) 2 dX6_swapped_86 kc_2 ?_
        refine s_isub (pc := 87) dX6_swapped_87 ?_
        refine s_iload_n (pc := 88) 1 dX6_swapped_88 rfl rfl ?_
        refine s_isub (pc := 89) dX6_swapped_89 ?_
        refine s_grd (fun i23 => ?_)
        refine s_powi (pc := 90) i23 dX6_swapped_90 ?_
        refine s_isub (pc := 91) dX6_swapped_91 ?_
        refine s_imul (pc := 92) dX6_swapped_92 ?_
        refine s_iadd (pc := 93) dX6_swapped_93 ?_
        exact s_iret rfl dX6_swapped_94
      · refine s_iconst (pc := 35) (-1) dX6_swapped_35 kc_m1 ?_
        exact s_iret rfl dX6_swapped_36
set_option maxRecDepth 100000 in
set_option maxHeartbeats 8000000 in
noncomputable def f_X6_tasteOf (p0 : Int32) : Option Int32 :=
  Option.bind (f_X6_lengthOf p0) (fun q1 => grd (vp_in q1 7) (bv (p0 - (stV q1.toNatClampNeg) : Int32) (fun x5 => Option.bind (loopO (σ := Int32 × Int32 × Int32) (ρ := Int32) (fun s6 => if q1 ≤ s6.2.2 then (some (.inr s6.2.1)) else (bv (s6.2.1 + (sl 1 (3 * (ir s6.1 6))) : Int32) (fun x14 => bv (s6.1 / 6 : Int32) (fun x15 => bv (s6.2.2 + 1 : Int32) (fun x16 => some (.inl (x15, x14, x16))))))) (x5, 0, 0)) (fun (x12 : Int32) => some x12))))
abbrev Y_X6_tasteOf : Sta := (RX6, "tasteOf", cX6_tasteOf, 5, (some .int), 2)
set_option maxRecDepth 100000 in
set_option maxHeartbeats 8000000 in
theorem t_X6_tasteOf {l : Launch} {G : Gh} {M : Mem} {p0 : Int32} {q : Int32} (h : f_X6_tasteOf p0 = some q) : Ctr l G yX6_tasteOf Y_X6_tasteOf M [.int p0] M (some (.int q)) := by
  refine Ctr.of (Y := Y_X6_tasteOf) (L := [some (.int p0), none, none, none, none]) (t := Option.bind (f_X6_tasteOf p0) (fun q => some (M, some (.int q)))) (by decide) rfl rfl (nle rfl) (Lof_in 4 _ rfl) (fun X hG hl => ?_) (by rw [h]; rfl)
  subst hG
  subst hl
  unfold f_X6_tasteOf
  refine s_iload_n (pc := 0) 0 dX6_tasteOf_0 rfl rfl ?_
  refine s_bind (fun q1 hq2 => ?_)
  have hC3 := t_X6_lengthOf (l := xl X) (G := xG X) (M := M) hq2
  refine s_callS (pc := 1) (As := [.int p0]) (st := []) cl_X6_lengthOf wt_X6_lengthOf km_X6_25 rfl rfl (nle rfl) (nle rfl) (nle rfl) dX6_tasteOf_1 hC3 ?_
  show S0 X _ M 4 [some (.int p0), none, none, none, none] [.int q1] _
  refine s_istore_n (pc := 4) 1 dX6_tasteOf_4 rfl (nlt rfl) rfl (L' := [some (.int p0), some (.int q1), none, none, none]) rfl ?_
  refine s_iload_n (pc := 5) 0 dX6_tasteOf_5 rfl rfl ?_
  refine s_start (pc := 6) dX6_tasteOf_6 (List.mem_of_getElem? (i := 23) rfl) ?_
  refine s_iload_n (pc := 9) 1 dX6_tasteOf_9 rfl rfl ?_
  refine s_grd (fun i4 => ?_)
  refine s_sti (pc := 10) i4 dX6_tasteOf_10 ?_
  refine s_isub (pc := 11) dX6_tasteOf_11 ?_
  refine s_istore_n (pc := 12) 2 dX6_tasteOf_12 rfl (nlt rfl) rfl (L' := [some (.int p0), some (.int q1), some (.int (p0 - (stV q1.toNatClampNeg))), none, none]) rfl ?_
  refine s_bv (fun x5 : Int32 => [some (.int p0), some (.int q1), some (.int x5), none, none]) (fun x5 => ?_) rfl
  refine s_iconst (pc := 13) 0 dX6_tasteOf_13 kc_0 ?_
  refine s_istore_n (pc := 14) 3 dX6_tasteOf_14 rfl (nlt rfl) rfl (L' := [some (.int p0), some (.int q1), some (.int x5), some (.int 0), none]) rfl ?_
  refine s_iconst (pc := 15) 0 dX6_tasteOf_15 kc_0 ?_
  refine s_istore (pc := 16) dX6_tasteOf_16 (nlt rfl) rfl (L' := [some (.int p0), some (.int q1), some (.int x5), some (.int 0), some (.int 0)]) rfl ?_
  refine s_drop (L' := [none, some (.int q1), some (.int x5), some (.int 0), some (.int 0)]) ?_ (And.intro rfl (And.intro rfl (And.intro rfl (And.intro rfl trivial))))
  refine s_loop1 M (fun s6 : Int32 × Int32 × Int32 => M) (fun s6 : Int32 × Int32 × Int32 => [none, some (.int q1), some (.int s6.1), some (.int s6.2.1), some (.int s6.2.2)]) (fun x12 : Int32 => M) 46 (fun x12 : Int32 => [none, none, none, some (.int x12), none]) (fun x12 hx13 => ?_) (fun T8 R10 hT9 hR11 s6 hs7 => ?_) (x5, 0, 0) Le.rf
  · show S0 X _ M 46 [none, none, none, some (.int x12), none] [] _
    refine s_iload_n (pc := 46) 3 dX6_tasteOf_46 rfl rfl ?_
    exact s_iret rfl dX6_tasteOf_47
  · show S0 X _ M 18 [none, some (.int q1), some (.int s6.1), some (.int s6.2.1), some (.int s6.2.2)] [] _
    refine s_iload (pc := 18) dX6_tasteOf_18 rfl ?_
    refine s_iload_n (pc := 20) 1 dX6_tasteOf_20 rfl rfl ?_
    refine s_icge (pc := 21) 46 dX6_tasteOf_21 rfl ?_ ?_
    · exact s_drop (hR11 s6.2.1 Le.rf) (And.intro rfl trivial)
    · refine s_iload_n (pc := 24) 3 dX6_tasteOf_24 rfl rfl ?_
      refine s_iconst (pc := 25) 1 dX6_tasteOf_25 kc_1 ?_
      refine s_iconst (pc := 26) 3 dX6_tasteOf_26 kc_3 ?_
      refine s_iload_n (pc := 27) 2 dX6_tasteOf_27 rfl rfl ?_
      refine s_bipush (pc := 28) 6 dX6_tasteOf_28 kb_6 ?_
      refine s_irem (pc := 30) dX6_tasteOf_30 (by decide) ?_
      refine s_imul (pc := 31) dX6_tasteOf_31 ?_
      refine s_ishl (pc := 32) dX6_tasteOf_32 ?_
      refine s_iadd (pc := 33) dX6_tasteOf_33 ?_
      refine s_istore_n (pc := 34) 3 dX6_tasteOf_34 rfl (nlt rfl) rfl (L' := [none, some (.int q1), some (.int s6.1), some (.int (s6.2.1 + (sl 1 (3 * (ir s6.1 6))))), some (.int s6.2.2)]) rfl ?_
      refine s_bv (fun x14 : Int32 => [none, some (.int q1), some (.int s6.1), some (.int x14), some (.int s6.2.2)]) (fun x14 => ?_) rfl
      refine s_iload_n (pc := 35) 2 dX6_tasteOf_35 rfl rfl ?_
      refine s_bipush (pc := 36) 6 dX6_tasteOf_36 kb_6 ?_
      refine s_idiv (pc := 38) dX6_tasteOf_38 (by decide) ?_
      refine s_istore_n (pc := 39) 2 dX6_tasteOf_39 rfl (nlt rfl) rfl (L' := [none, some (.int q1), some (.int (s6.1 / 6)), some (.int x14), some (.int s6.2.2)]) rfl ?_
      refine s_bv (fun x15 : Int32 => [none, some (.int q1), some (.int x15), some (.int x14), some (.int s6.2.2)]) (fun x15 => ?_) rfl
      refine s_iinc (pc := 40) dX6_tasteOf_40 rfl (v := s6.2.2 + 1) (congrArg (fun z : Int32 => s6.2.2 + z) kc_1) (nlt rfl) rfl (L' := [none, some (.int q1), some (.int x15), some (.int x14), some (.int (s6.2.2 + 1))]) rfl ?_
      refine s_bv (fun x16 : Int32 => [none, some (.int q1), some (.int x15), some (.int x14), some (.int x16)]) (fun x16 => ?_) rfl
      refine s_goto (pc := 43) 18 dX6_tasteOf_43 rfl ?_
      exact s_drop (hT9 (x15, x14, x16) Le.rf) (And.intro rfl (And.intro rfl (And.intro rfl (And.intro rfl trivial))))
set_option maxRecDepth 100000 in
set_option maxHeartbeats 8000000 in
noncomputable def f_X6_with (M : Mem) (a0 : Nat) (p1 : Int32) (p2 : Int32) : Option Int32 :=
  grd (okO M 6 a0) (Option.bind (f_X6_hasRoomAt M a0 p1) (fun q2 => if q2 = 0 then (some (-1)) else (grd (vp_in ((mI M a0 2) - p1) 6) (bv (pwV ((mI M a0 2) - p1).toNatClampNeg : Int32) (fun x6 => grd (vp_in ((mI M a0 2) + 1) 7) (grd (¬ x6 = 0) (grd (¬ x6 = 0) (some (((stV ((mI M a0 2) + 1).toNatClampNeg) + (((((mI M a0 3) / x6) * 6) + p2) * x6)) + (ir (mI M a0 3) x6))))))))))
abbrev Y_X6_with : Sta := (RX6, "with", cX6_with, 4, (some .int), 2)
set_option maxRecDepth 100000 in
set_option maxHeartbeats 8000000 in
theorem t_X6_with {l : Launch} {G : Gh} {M : Mem} {a0 : Nat} {p1 : Int32} {p2 : Int32} {q : Int32} (h : f_X6_with M a0 p1 p2 = some q) : Ctr l G yX6_with Y_X6_with M [.ref (gh G + a0), .int p1, .int p2] M (some (.int q)) := by
  refine Ctr.of (Y := Y_X6_with) (L := [some (.ref (gh G + a0)), some (.int p1), some (.int p2), none]) (t := Option.bind (f_X6_with M a0 p1 p2) (fun q => some (M, some (.int q)))) (by decide) rfl rfl (nle rfl) (Lof_in 1 _ rfl) (fun X hG hl => ?_) (by rw [h]; rfl)
  subst hG
  subst hl
  unfold f_X6_with
  refine s_aload_n (pc := 0) 0 dX6_with_0 rfl rfl ?_
  refine s_iload_n (pc := 1) 1 dX6_with_1 rfl rfl ?_
  refine s_grd (fun o1 => ?_)
  refine s_bind (fun q2 hq3 => ?_)
  have hC4 := t_X6_hasRoomAt (l := xl X) (G := xG X) hq3
  refine s_callV (pc := 2) (As := [.int p1]) (st := []) (nlt rfl) (q := (RX6, TX6, 4)) rfl rfl o1 cl_X6_hasRoomAt wi_X6_hasRoomAt wl_X6_hasRoomAt km_X6_40 rfl rfl (nle rfl) (nle rfl) (nle rfl) dX6_with_2 hC4 ?_
  show S0 X _ M 5 [some (.ref (gh (xG X) + a0)), some (.int p1), some (.int p2), none] [.int q2] _
  refine s_ifne (pc := 5) 10 dX6_with_5 rfl ?_ ?_
  · refine s_power (pc := 10) dX6_with_10 (List.mem_of_getElem? (i := 22) rfl) ?_
    refine s_aload_n (pc := 13) 0 dX6_with_13 rfl rfl ?_
    refine s_geti (pc := 14) F_6 2 rfl o1 dX6_with_14 kf_X6_29 ?_
    refine s_iload_n (pc := 17) 1 dX6_with_17 rfl rfl ?_
    refine s_isub (pc := 18) dX6_with_18 ?_
    refine s_grd (fun i5 => ?_)
    refine s_powi (pc := 19) i5 dX6_with_19 ?_
    refine s_istore_n (pc := 20) 3 dX6_with_20 rfl (nlt rfl) rfl (L' := [some (.ref (gh (xG X) + a0)), some (.int p1), some (.int p2), some (.int (pwV ((mI M a0 2) - p1).toNatClampNeg))]) rfl ?_
    refine s_bv (fun x6 : Int32 => [some (.ref (gh (xG X) + a0)), some (.int p1), some (.int p2), some (.int x6)]) (fun x6 => ?_) rfl
    refine s_start (pc := 21) dX6_with_21 (List.mem_of_getElem? (i := 23) rfl) ?_
    refine s_aload_n (pc := 24) 0 dX6_with_24 rfl rfl ?_
    refine s_geti (pc := 25) F_6 2 rfl o1 dX6_with_25 kf_X6_29 ?_
    refine s_iconst (pc := 28) 1 dX6_with_28 kc_1 ?_
    refine s_iadd (pc := 29) dX6_with_29 ?_
    refine s_grd (fun i7 => ?_)
    refine s_sti (pc := 30) i7 dX6_with_30 ?_
    refine s_aload_n (pc := 31) 0 dX6_with_31 rfl rfl ?_
    refine s_geti (pc := 32) F_6 3 rfl o1 dX6_with_32 kf_X6_33 ?_
    refine s_iload_n (pc := 35) 3 dX6_with_35 rfl rfl ?_
    refine s_grd (fun g8 => ?_)
    refine s_idiv (pc := 36) dX6_with_36 g8 ?_
    refine s_bipush (pc := 37) 6 dX6_with_37 kb_6 ?_
    refine s_imul (pc := 39) dX6_with_39 ?_
    refine s_iload_n (pc := 40) 2 dX6_with_40 rfl rfl ?_
    refine s_iadd (pc := 41) dX6_with_41 ?_
    refine s_iload_n (pc := 42) 3 dX6_with_42 rfl rfl ?_
    refine s_imul (pc := 43) dX6_with_43 ?_
    refine s_iadd (pc := 44) dX6_with_44 ?_
    refine s_aload_n (pc := 45) 0 dX6_with_45 rfl rfl ?_
    refine s_geti (pc := 46) F_6 3 rfl o1 dX6_with_46 kf_X6_33 ?_
    refine s_iload_n (pc := 49) 3 dX6_with_49 rfl rfl ?_
    refine s_grd (fun g9 => ?_)
    refine s_irem (pc := 50) dX6_with_50 g9 ?_
    refine s_iadd (pc := 51) dX6_with_51 ?_
    exact s_iret rfl dX6_with_52
  · refine s_iconst (pc := 8) (-1) dX6_with_8 kc_m1 ?_
    exact s_iret rfl dX6_with_9
