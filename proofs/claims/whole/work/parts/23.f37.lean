set_option maxRecDepth 100000 in
set_option maxHeartbeats 8000000 in
noncomputable def f_X12_measures (M : Mem) (a0 : Nat) (p1 : Int32) : Option Mem :=
  grd (okO M 12 a0) (Option.bind (f_X12_laysNext M a0) (fun q2 => Option.bind (loopO (σ := Mem × Int32) (ρ := Mem) (fun s7 => if 9331 ≤ s7.2 then (some (.inr s7.1)) else (Option.bind (mR s7.1 a0 35) (fun r16 => grd (okO s7.1 14 r16) (grd (vp_in s7.2 (mL s7.1 r16)) (bv (wI s7.1 r16 s7.2.toNatClampNeg 1000000) (fun M19 => bv (s7.2 + 1 : Int32) (fun x23 => some (.inl (M19, x23))))))))) (q2, 0)) (fun (x14 : Mem) => Option.bind (mR x14 a0 35) (fun r25 => grd (okO x14 14 r25) (grd (vp_in p1 (mL x14 r25)) (bv (wI x14 r25 p1.toNatClampNeg 0) (fun M28 => Option.bind (mR M28 a0 36) (fun r32 => grd (okO M28 14 r32) (grd (vp_in 0 (mL M28 r32)) (bv (wI M28 r32 (0 : Int32).toNatClampNeg p1) (fun M35 => Option.bind (loopO (σ := Mem × Int32 × Int32) (ρ := Mem) (fun s39 => if s39.2.1 ≤ s39.2.2 then (some (.inr s39.1)) else (Option.bind (mR s39.1 a0 36) (fun r48 => grd (okO s39.1 14 r48) (grd (vp_in s39.2.2 (mL s39.1 r48)) (bv (mI s39.1 r48 s39.2.2.toNatClampNeg : Int32) (fun x51 => Option.bind (loopO (σ := Mem × Int32 × Int32) (ρ := Mem × Int32) (fun s52 => Option.bind (mR s52.1 a0 33) (fun r61 => grd (okO s52.1 14 r61) (grd (vp_in x51 (mL s52.1 r61)) (if (mI s52.1 r61 x51.toNatClampNeg) ≤ s52.2.2 then (some (.inr (s52.1, s52.2.1))) else (Option.bind (mR s52.1 a0 32) (fun r64 => grd (okO s52.1 14 r64) (grd (vp_in ((46 * x51) + s52.2.2) (mL s52.1 r64)) (bv (mI s52.1 r64 ((46 * x51) + s52.2.2).toNatClampNeg : Int32) (fun x67 => Option.bind (mR s52.1 a0 35) (fun r68 => grd (okO s52.1 14 r68) (grd (vp_in x67 (mL s52.1 r68)) (bv (fun (s72 : Mem × Int32) => bv (s52.2.2 + 1 : Int32) (fun x76 => some (.inl (s72.1, s72.2, x76)))) (fun j71 => if 1000000 ≤ (mI s52.1 r68 x67.toNatClampNeg) then (Option.bind (mR s52.1 a0 35) (fun r77 => Option.bind (mR s52.1 a0 35) (fun r78 => grd (okO s52.1 14 r78) (grd (vp_in x51 (mL s52.1 r78)) (grd (okO s52.1 14 r77) (grd (vp_in x67 (mL s52.1 r77)) (bv (wI s52.1 r77 x67.toNatClampNeg ((mI s52.1 r78 x51.toNatClampNeg) + 1)) (fun M83 => Option.bind (mR M83 a0 36) (fun r87 => grd (okO M83 14 r87) (grd (vp_in s52.2.1 (mL M83 r87)) (bv (wI M83 r87 s52.2.1.toNatClampNeg x67) (fun M90 => bv (s52.2.1 + 1 : Int32) (fun x94 => j71 (M90, x94)))))))))))))) else (j71 (s52.1, s52.2.1))))))))))))))) (s39.1, s39.2.1, 0)) (fun (x59 : Mem × Int32) => bv (s39.2.2 + 1 : Int32) (fun x96 => some (.inl (x59.1, x59.2, x96)))))))))) (M35, 1, 0)) (fun (x46 : Mem) => some x46))))))))))))
abbrev Y_X12_measures : Sta := (RX12, "measures", cX12_measures, 7, none, 209)
set_option maxRecDepth 100000 in
set_option maxHeartbeats 8000000 in
theorem t_X12_measures {l : Launch} {G : Gh} {M : Mem} {a0 : Nat} {p1 : Int32} {q : Mem} (h : f_X12_measures M a0 p1 = some q) : Ctr l G yX12_measures Y_X12_measures M [.ref (gh G + a0), .int p1] q (none) := by
  refine Ctr.of (Y := Y_X12_measures) (L := [some (.ref (gh G + a0)), some (.int p1), none, none, none, none, none]) (t := Option.bind (f_X12_measures M a0 p1) (fun q => some (q, (none : Option Value)))) (by decide) rfl rfl (nle rfl) (Lof_in 5 _ rfl) (fun X hG hl => ?_) (by rw [h]; rfl)
  subst hG
  subst hl
  unfold f_X12_measures
  refine s_aload_n (pc := 0) 0 dX12_measures_0 rfl rfl ?_
  refine s_grd (fun o1 => ?_)
  refine s_bind (fun q2 hq3 => ?_)
  have hC4 := t_X12_laysNext (l := xl X) (G := xG X) hq3
  refine s_callV (pc := 1) (As := []) (st := []) (nlt rfl) (q := (RX12, TX12, 59)) rfl rfl o1 cl_X12_laysNext wi_X12_laysNext wl_X12_laysNext km_X12_365 rfl rfl (nle rfl) (nle rfl) (nle rfl) dX12_measures_1 hC4 ?_
  have h5 := hC4.1 X
  have o6 := h5.ok o1
  show S0 X _ q2 4 [some (.ref (gh (xG X) + a0)), some (.int p1), none, none, none, none, none] [] _
  refine s_iconst (pc := 4) 0 dX12_measures_4 kc_0 ?_
  refine s_istore_n (pc := 5) 2 dX12_measures_5 rfl (nlt rfl) rfl (L' := [some (.ref (gh (xG X) + a0)), some (.int p1), some (.int 0), none, none, none, none]) rfl ?_
  refine s_drop (L' := [some (.ref (gh (xG X) + a0)), some (.int p1), some (.int 0), none, none, none, none]) ?_ (And.intro rfl (And.intro rfl (And.intro rfl trivial)))
  refine s_loop1 q2 (fun s7 : Mem × Int32 => s7.1) (fun s7 : Mem × Int32 => [some (.ref (gh (xG X) + a0)), some (.int p1), some (.int s7.2), none, none, none, none]) (fun x14 : Mem => x14) 27 (fun x14 : Mem => [some (.ref (gh (xG X) + a0)), some (.int p1), none, none, none, none, none]) (fun x14 hx15 => ?_) (fun T9 R11 hT10 hR12 s7 hs8 => ?_) (q2, 0) Le.rf
  · show S0 X _ x14 27 [some (.ref (gh (xG X) + a0)), some (.int p1), none, none, none, none, none] [] _
    have o24 := hx15.ok o6
    refine s_aload_n (pc := 27) 0 dX12_measures_27 rfl rfl ?_
    refine s_geto (pc := 28) F_12 35 rfl o24 dX12_measures_28 kf_X12_77 ?_
    refine s_rvB (fun r25 => ?_)
    refine s_iload_n (pc := 31) 1 dX12_measures_31 rfl rfl ?_
    refine s_iconst (pc := 32) 0 dX12_measures_32 kc_0 ?_
    refine s_grd (fun o26 => ?_)
    refine s_grd (fun i27 => ?_)
    refine s_iast (pc := 33) o26 i27 dX12_measures_33 (fun M28 hM29 => ?_)
    have h30 := le_wI hM29
    have o31 := h30.ok o24
    refine s_aload_n (pc := 34) 0 dX12_measures_34 rfl rfl ?_
    refine s_geto (pc := 35) F_12 36 rfl o31 dX12_measures_35 kf_X12_80 ?_
    refine s_rvB (fun r32 => ?_)
    refine s_iconst (pc := 38) 0 dX12_measures_38 kc_0 ?_
    refine s_iload_n (pc := 39) 1 dX12_measures_39 rfl rfl ?_
    refine s_grd (fun o33 => ?_)
    refine s_grd (fun i34 => ?_)
    refine s_iast (pc := 40) o33 i34 dX12_measures_40 (fun M35 hM36 => ?_)
    have h37 := le_wI hM36
    have o38 := h37.ok o31
    refine s_iconst (pc := 41) 1 dX12_measures_41 kc_1 ?_
    refine s_istore_n (pc := 42) 2 dX12_measures_42 rfl (nlt rfl) rfl (L' := [some (.ref (gh (xG X) + a0)), some (.int p1), some (.int 1), none, none, none, none]) rfl ?_
    refine s_iconst (pc := 43) 0 dX12_measures_43 kc_0 ?_
    refine s_istore_n (pc := 44) 3 dX12_measures_44 rfl (nlt rfl) rfl (L' := [some (.ref (gh (xG X) + a0)), some (.int p1), some (.int 1), some (.int 0), none, none, none]) rfl ?_
    refine s_drop (L' := [some (.ref (gh (xG X) + a0)), none, some (.int 1), some (.int 0), none, none, none]) ?_ (And.intro rfl (And.intro rfl (And.intro rfl trivial)))
    refine s_loop1 M35 (fun s39 : Mem × Int32 × Int32 => s39.1) (fun s39 : Mem × Int32 × Int32 => [some (.ref (gh (xG X) + a0)), none, some (.int s39.2.1), some (.int s39.2.2), none, none, none]) (fun x46 : Mem => x46) 142 (fun x46 : Mem => [none, none, none, none, none, none, none]) (fun x46 hx47 => ?_) (fun T41 R43 hT42 hR44 s39 hs40 => ?_) (M35, 1, 0) Le.rf
    · show S0 X _ x46 142 [none, none, none, none, none, none, none] [] _
      exact s_vret rfl dX12_measures_142
    · show S0 X _ s39.1 45 [some (.ref (gh (xG X) + a0)), none, some (.int s39.2.1), some (.int s39.2.2), none, none, none] [] _
      have o45 := hs40.ok o38
      refine s_iload_n (pc := 45) 3 dX12_measures_45 rfl rfl ?_
      refine s_iload_n (pc := 46) 2 dX12_measures_46 rfl rfl ?_
      refine s_icge (pc := 47) 142 dX12_measures_47 rfl ?_ ?_
      · exact s_drop (hR44 s39.1 hs40) trivial
      · refine s_aload_n (pc := 50) 0 dX12_measures_50 rfl rfl ?_
        refine s_geto (pc := 51) F_12 36 rfl o45 dX12_measures_51 kf_X12_80 ?_
        refine s_rvB (fun r48 => ?_)
        refine s_iload_n (pc := 54) 3 dX12_measures_54 rfl rfl ?_
        refine s_grd (fun o49 => ?_)
        refine s_grd (fun i50 => ?_)
        refine s_iald (pc := 55) o49 i50 dX12_measures_55 ?_
        refine s_istore (pc := 56) dX12_measures_56 (nlt rfl) rfl (L' := [some (.ref (gh (xG X) + a0)), none, some (.int s39.2.1), some (.int s39.2.2), some (.int (mI s39.1 r48 s39.2.2.toNatClampNeg)), none, none]) rfl ?_
        refine s_bv (fun x51 : Int32 => [some (.ref (gh (xG X) + a0)), none, some (.int s39.2.1), some (.int s39.2.2), some (.int x51), none, none]) (fun x51 => ?_) rfl
        refine s_iconst (pc := 58) 0 dX12_measures_58 kc_0 ?_
        refine s_istore (pc := 59) dX12_measures_59 (nlt rfl) rfl (L' := [some (.ref (gh (xG X) + a0)), none, some (.int s39.2.1), some (.int s39.2.2), some (.int x51), some (.int 0), none]) rfl ?_
        refine s_drop (L' := [some (.ref (gh (xG X) + a0)), none, some (.int s39.2.1), some (.int s39.2.2), some (.int x51), some (.int 0), none]) ?_ (And.intro rfl (And.intro rfl (And.intro rfl (And.intro rfl (And.intro rfl trivial)))))
        refine s_loop1 s39.1 (fun s52 : Mem × Int32 × Int32 => s52.1) (fun s52 : Mem × Int32 × Int32 => [some (.ref (gh (xG X) + a0)), none, some (.int s52.2.1), some (.int s39.2.2), some (.int x51), some (.int s52.2.2), none]) (fun x59 : Mem × Int32 => x59.1) 136 (fun x59 : Mem × Int32 => [some (.ref (gh (xG X) + a0)), none, some (.int x59.2), some (.int s39.2.2), none, none, none]) (fun x59 hx60 => ?_) (fun T54 R56 hT55 hR57 s52 hs53 => ?_) (s39.1, s39.2.1, 0) Le.rf
        · show S0 X _ x59.1 136 [some (.ref (gh (xG X) + a0)), none, some (.int x59.2), some (.int s39.2.2), none, none, none] [] _
          have o95 := hx60.ok o45
          refine s_iinc (pc := 136) dX12_measures_136 rfl (v := s39.2.2 + 1) (congrArg (fun z : Int32 => s39.2.2 + z) kc_1) (nlt rfl) rfl (L' := [some (.ref (gh (xG X) + a0)), none, some (.int x59.2), some (.int (s39.2.2 + 1)), none, none, none]) rfl ?_
          refine s_bv (fun x96 : Int32 => [some (.ref (gh (xG X) + a0)), none, some (.int x59.2), some (.int x96), none, none, none]) (fun x96 => ?_) rfl
          refine s_goto (pc := 139) 45 dX12_measures_139 rfl ?_
          exact s_drop (hT42 (x59.1, x59.2, x96) (hs40.tr hx60)) (And.intro rfl (And.intro rfl (And.intro rfl trivial)))
        · show S0 X _ s52.1 61 [some (.ref (gh (xG X) + a0)), none, some (.int s52.2.1), some (.int s39.2.2), some (.int x51), some (.int s52.2.2), none] [] _
          have o58 := hs53.ok o45
          refine s_iload (pc := 61) dX12_measures_61 rfl ?_
          refine s_aload_n (pc := 63) 0 dX12_measures_63 rfl rfl ?_
          refine s_geto (pc := 64) F_12 33 rfl o58 dX12_measures_64 kf_X12_71 ?_
          refine s_rvB (fun r61 => ?_)
          refine s_iload (pc := 67) dX12_measures_67 rfl ?_
          refine s_grd (fun o62 => ?_)
          refine s_grd (fun i63 => ?_)
          refine s_iald (pc := 69) o62 i63 dX12_measures_69 ?_
          refine s_icge (pc := 70) 136 dX12_measures_70 rfl ?_ ?_
          · exact s_drop (hR57 (s52.1, s52.2.1) hs53) (And.intro rfl (And.intro rfl (And.intro rfl trivial)))
          · refine s_aload_n (pc := 73) 0 dX12_measures_73 rfl rfl ?_
            refine s_geto (pc := 74) F_12 32 rfl o58 dX12_measures_74 kf_X12_68 ?_
            refine s_rvB (fun r64 => ?_)
            refine s_bipush (pc := 77) 46 dX12_measures_77 kb_46 ?_
            refine s_iload (pc := 79) dX12_measures_79 rfl ?_
            refine s_imul (pc := 81) dX12_measures_81 ?_
            refine s_iload (pc := 82) dX12_measures_82 rfl ?_
            refine s_iadd (pc := 84) dX12_measures_84 ?_
            refine s_grd (fun o65 => ?_)
            refine s_grd (fun i66 => ?_)
            refine s_iald (pc := 85) o65 i66 dX12_measures_85 ?_
            refine s_istore (pc := 86) dX12_measures_86 (nlt rfl) rfl (L' := [some (.ref (gh (xG X) + a0)), none, some (.int s52.2.1), some (.int s39.2.2), some (.int x51), some (.int s52.2.2), some (.int (mI s52.1 r64 ((46 * x51) + s52.2.2).toNatClampNeg))]) rfl ?_
            refine s_bv (fun x67 : Int32 => [some (.ref (gh (xG X) + a0)), none, some (.int s52.2.1), some (.int s39.2.2), some (.int x51), some (.int s52.2.2), some (.int x67)]) (fun x67 => ?_) rfl
            refine s_aload_n (pc := 88) 0 dX12_measures_88 rfl rfl ?_
            refine s_geto (pc := 89) F_12 35 rfl o58 dX12_measures_89 kf_X12_77 ?_
            refine s_rvB (fun r68 => ?_)
            refine s_iload (pc := 92) dX12_measures_92 rfl ?_
            refine s_grd (fun o69 => ?_)
            refine s_grd (fun i70 => ?_)
            refine s_iald (pc := 94) o69 i70 dX12_measures_94 ?_
            refine s_ldc (pc := 95) dX12_measures_95 ki_X12_229 ?_
            refine s_join s52.1 (fun s72 : Mem × Int32 => s72.1) 130 (fun s72 : Mem × Int32 => [some (.ref (gh (xG X) + a0)), none, some (.int s72.2), some (.int s39.2.2), some (.int x51), some (.int s52.2.2), none]) (fun s72 : Mem × Int32 => []) (fun s72 hs73 => ?_) (fun j71 hj74 => ?_)
            · show S0 X _ s72.1 130 [some (.ref (gh (xG X) + a0)), none, some (.int s72.2), some (.int s39.2.2), some (.int x51), some (.int s52.2.2), none] [] _
              have o75 := hs73.ok o58
              refine s_iinc (pc := 130) dX12_measures_130 rfl (v := s52.2.2 + 1) (congrArg (fun z : Int32 => s52.2.2 + z) kc_1) (nlt rfl) rfl (L' := [some (.ref (gh (xG X) + a0)), none, some (.int s72.2), some (.int s39.2.2), some (.int x51), some (.int (s52.2.2 + 1)), none]) rfl ?_
              refine s_bv (fun x76 : Int32 => [some (.ref (gh (xG X) + a0)), none, some (.int s72.2), some (.int s39.2.2), some (.int x51), some (.int x76), none]) (fun x76 => ?_) rfl
              refine s_goto (pc := 133) 61 dX12_measures_133 rfl ?_
              exact s_drop (hT55 (s72.1, s72.2, x76) (hs53.tr hs73)) (And.intro rfl (And.intro rfl (And.intro rfl (And.intro rfl (And.intro rfl trivial)))))
            · refine s_icge (pc := 97) 103 dX12_measures_97 rfl ?_ ?_
              · refine s_aload_n (pc := 103) 0 dX12_measures_103 rfl rfl ?_
                refine s_geto (pc := 104) F_12 35 rfl o58 dX12_measures_104 kf_X12_77 ?_
                refine s_rvB (fun r77 => ?_)
                refine s_iload (pc := 107) dX12_measures_107 rfl ?_
                refine s_aload_n (pc := 109) 0 dX12_measures_109 rfl rfl ?_
                refine s_geto (pc := 110) F_12 35 rfl o58 dX12_measures_110 kf_X12_77 ?_
                refine s_rvB (fun r78 => ?_)
                refine s_iload (pc := 113) dX12_measures_113 rfl ?_
                refine s_grd (fun o79 => ?_)
                refine s_grd (fun i80 => ?_)
                refine s_iald (pc := 115) o79 i80 dX12_measures_115 ?_
                refine s_iconst (pc := 116) 1 dX12_measures_116 kc_1 ?_
                refine s_iadd (pc := 117) dX12_measures_117 ?_
                refine s_grd (fun o81 => ?_)
                refine s_grd (fun i82 => ?_)
                refine s_iast (pc := 118) o81 i82 dX12_measures_118 (fun M83 hM84 => ?_)
                have h85 := le_wI hM84
                have o86 := h85.ok o58
                refine s_aload_n (pc := 119) 0 dX12_measures_119 rfl rfl ?_
                refine s_geto (pc := 120) F_12 36 rfl o86 dX12_measures_120 kf_X12_80 ?_
                refine s_rvB (fun r87 => ?_)
                refine s_iload_n (pc := 123) 2 dX12_measures_123 rfl rfl ?_
                refine s_iload (pc := 124) dX12_measures_124 rfl ?_
                refine s_grd (fun o88 => ?_)
                refine s_grd (fun i89 => ?_)
                refine s_iast (pc := 126) o88 i89 dX12_measures_126 (fun M90 hM91 => ?_)
                have h92 := le_wI hM91
                have o93 := h92.ok o86
                refine s_iinc (pc := 127) dX12_measures_127 rfl (v := s52.2.1 + 1) (congrArg (fun z : Int32 => s52.2.1 + z) kc_1) (nlt rfl) rfl (L' := [some (.ref (gh (xG X) + a0)), none, some (.int (s52.2.1 + 1)), some (.int s39.2.2), some (.int x51), some (.int s52.2.2), some (.int x67)]) rfl ?_
                refine s_bv (fun x94 : Int32 => [some (.ref (gh (xG X) + a0)), none, some (.int x94), some (.int s39.2.2), some (.int x51), some (.int s52.2.2), some (.int x67)]) (fun x94 => ?_) rfl
                exact s_drop (hj74 (M90, x94) (h85.tr h92)) (And.intro rfl (And.intro rfl (And.intro rfl (And.intro rfl (And.intro rfl trivial)))))
              · refine s_goto (pc := 100) 130 dX12_measures_100 rfl ?_
                exact s_drop (hj74 (s52.1, s52.2.1) Le.rf) (And.intro rfl (And.intro rfl (And.intro rfl (And.intro rfl (And.intro rfl trivial)))))
  · show S0 X _ s7.1 6 [some (.ref (gh (xG X) + a0)), some (.int p1), some (.int s7.2), none, none, none, none] [] _
    have o13 := hs8.ok o6
    refine s_iload_n (pc := 6) 2 dX12_measures_6 rfl rfl ?_
    refine s_sipush (pc := 7) 9331 dX12_measures_7 ks_9331 ?_
    refine s_icge (pc := 10) 27 dX12_measures_10 rfl ?_ ?_
    · exact s_drop (hR12 s7.1 hs8) (And.intro rfl (And.intro rfl trivial))
    · refine s_aload_n (pc := 13) 0 dX12_measures_13 rfl rfl ?_
      refine s_geto (pc := 14) F_12 35 rfl o13 dX12_measures_14 kf_X12_77 ?_
      refine s_rvB (fun r16 => ?_)
      refine s_iload_n (pc := 17) 2 dX12_measures_17 rfl rfl ?_
      refine s_ldc (pc := 18) dX12_measures_18 ki_X12_229 ?_
      refine s_grd (fun o17 => ?_)
      refine s_grd (fun i18 => ?_)
      refine s_iast (pc := 20) o17 i18 dX12_measures_20 (fun M19 hM20 => ?_)
      have h21 := le_wI hM20
      have o22 := h21.ok o13
      refine s_iinc (pc := 21) dX12_measures_21 rfl (v := s7.2 + 1) (congrArg (fun z : Int32 => s7.2 + z) kc_1) (nlt rfl) rfl (L' := [some (.ref (gh (xG X) + a0)), some (.int p1), some (.int (s7.2 + 1)), none, none, none, none]) rfl ?_
      refine s_bv (fun x23 : Int32 => [some (.ref (gh (xG X) + a0)), some (.int p1), some (.int x23), none, none, none, none]) (fun x23 => ?_) rfl
      refine s_goto (pc := 24) 6 dX12_measures_24 rfl ?_
      exact s_drop (hT10 (M19, x23) (hs8.tr h21)) (And.intro rfl (And.intro rfl (And.intro rfl trivial)))
set_option maxRecDepth 100000 in
set_option maxHeartbeats 8000000 in
noncomputable def f_X12_odds (M : Mem) (a0 : Nat) (p1 : Int32) (p2 : Int32) (p3 : Int32) : Option (Mem × Int64) :=
  Option.bind (f_X12_isDish p1) (fun q1 => if q1 = 0 then (some (M, (-1))) else (Option.bind (f_X12_isDish p2) (fun q4 => if q4 = 0 then (some (M, (-1))) else (Option.bind (f_X12_lies p3 0 3) (fun q7 => if q7 = 0 then (some (M, (-1))) else (grd (okO M 12 a0) (Option.bind (f_X12_parts M a0 p1 p3) (fun q11 => Option.bind (mR q11 a0 44) (fun r16 => Option.bind (f_X12_placeOf p2) (fun q17 => grd (okO q11 15 r16) (grd (vp_in q17 (mL q11 r16)) (some (q11, mJ q11 r16 q17.toNatClampNeg)))))))))))))
abbrev Y_X12_odds : Sta := (RX12, "odds", cX12_odds, 4, (some .long), 209)
set_option maxRecDepth 100000 in
set_option maxHeartbeats 8000000 in
theorem t_X12_odds {l : Launch} {G : Gh} {M : Mem} {a0 : Nat} {p1 : Int32} {p2 : Int32} {p3 : Int32} {q : Mem × Int64} (h : f_X12_odds M a0 p1 p2 p3 = some q) : Ctr l G yX12_odds Y_X12_odds M [.ref (gh G + a0), .int p1, .int p2, .int p3] q.1 (some (.long q.2)) := by
  refine Ctr.of (Y := Y_X12_odds) (L := [some (.ref (gh G + a0)), some (.int p1), some (.int p2), some (.int p3)]) (t := Option.bind (f_X12_odds M a0 p1 p2 p3) (fun q => some (q.1, some (.long q.2)))) (by decide) rfl rfl (nle rfl) (Lof_in 0 _ rfl) (fun X hG hl => ?_) (by rw [h]; rfl)
  subst hG
  subst hl
  unfold f_X12_odds
  refine s_iload_n (pc := 0) 1 dX12_odds_0 rfl rfl ?_
  refine s_bind (fun q1 hq2 => ?_)
  have hC3 := t_X12_isDish (l := xl X) (G := xG X) (M := M) hq2
  refine s_callS (pc := 1) (As := [.int p1]) (st := []) cl_X12_isDish wt_X12_isDish km_X12_184 rfl rfl (nle rfl) (nle rfl) (nle rfl) dX12_odds_1 hC3 ?_
  show S0 X _ M 4 [some (.ref (gh (xG X) + a0)), some (.int p1), some (.int p2), some (.int p3)] [.int q1] _
  refine s_ifeq (pc := 4) 23 dX12_odds_4 rfl ?_ ?_
  · refine s_ldc2 (pc := 23) dX12_odds_23 kl_X12_342 ?_
    exact s_lret rfl dX12_odds_26
  · refine s_iload_n (pc := 7) 2 dX12_odds_7 rfl rfl ?_
    refine s_bind (fun q4 hq5 => ?_)
    have hC6 := t_X12_isDish (l := xl X) (G := xG X) (M := M) hq5
    refine s_callS (pc := 8) (As := [.int p2]) (st := []) cl_X12_isDish wt_X12_isDish km_X12_184 rfl rfl (nle rfl) (nle rfl) (nle rfl) dX12_odds_8 hC6 ?_
    show S0 X _ M 11 [some (.ref (gh (xG X) + a0)), some (.int p1), some (.int p2), some (.int p3)] [.int q4] _
    refine s_ifeq (pc := 11) 23 dX12_odds_11 rfl ?_ ?_
    · refine s_ldc2 (pc := 23) dX12_odds_23 kl_X12_342 ?_
      exact s_lret rfl dX12_odds_26
    · refine s_iload_n (pc := 14) 3 dX12_odds_14 rfl rfl ?_
      refine s_iconst (pc := 15) 0 dX12_odds_15 kc_0 ?_
      refine s_iconst (pc := 16) 3 dX12_odds_16 kc_3 ?_
      refine s_bind (fun q7 hq8 => ?_)
      have hC9 := t_X12_lies (l := xl X) (G := xG X) (M := M) hq8
      refine s_callS (pc := 17) (As := [.int p3, .int 0, .int 3]) (st := []) cl_X12_lies wt_X12_lies km_X12_123 rfl rfl (nle rfl) (nle rfl) (nle rfl) dX12_odds_17 hC9 ?_
      show S0 X _ M 20 [some (.ref (gh (xG X) + a0)), some (.int p1), some (.int p2), some (.int p3)] [.int q7] _
      refine s_ifne (pc := 20) 27 dX12_odds_20 rfl ?_ ?_
      · refine s_aload_n (pc := 27) 0 dX12_odds_27 rfl rfl ?_
        refine s_iload_n (pc := 28) 1 dX12_odds_28 rfl rfl ?_
        refine s_iload_n (pc := 29) 3 dX12_odds_29 rfl rfl ?_
        refine s_grd (fun o10 => ?_)
        refine s_bind (fun q11 hq12 => ?_)
        have hC13 := t_X12_parts (l := xl X) (G := xG X) hq12
        refine s_callV (pc := 30) (As := [.int p1, .int p3]) (st := []) (nlt rfl) (q := (RX12, TX12, 59)) rfl rfl o10 cl_X12_parts wi_X12_parts wl_X12_parts km_X12_404 rfl rfl (nle rfl) (nle rfl) (nle rfl) dX12_odds_30 hC13 ?_
        have h14 := hC13.1 X
        have o15 := h14.ok o10
        show S0 X _ q11 33 [some (.ref (gh (xG X) + a0)), some (.int p1), some (.int p2), some (.int p3)] [] _
        refine s_aload_n (pc := 33) 0 dX12_odds_33 rfl rfl ?_
        refine s_geto (pc := 34) F_12 44 rfl o15 dX12_odds_34 kf_X12_104 ?_
        refine s_rvB (fun r16 => ?_)
        refine s_iload_n (pc := 37) 2 dX12_odds_37 rfl rfl ?_
        refine s_bind (fun q17 hq18 => ?_)
        have hC19 := t_X12_placeOf (l := xl X) (G := xG X) (M := q11) hq18
        refine s_callS (pc := 38) (As := [.int p2]) (st := [.ref (gh (xG X) + r16)]) cl_X12_placeOf wt_X12_placeOf km_X12_362 rfl rfl (nle rfl) (nle rfl) (nle rfl) dX12_odds_38 hC19 ?_
        show S0 X _ q11 41 [some (.ref (gh (xG X) + a0)), some (.int p1), some (.int p2), some (.int p3)] [.int q17, .ref (gh (xG X) + r16)] _
        refine s_grd (fun o20 => ?_)
        refine s_grd (fun i21 => ?_)
        refine s_lald (pc := 41) o20 i21 dX12_odds_41 ?_
        exact s_lret rfl dX12_odds_42
      · refine s_ldc2 (pc := 23) dX12_odds_23 kl_X12_342 ?_
        exact s_lret rfl dX12_odds_26
set_option maxRecDepth 100000 in
set_option maxHeartbeats 8000000 in
noncomputable def f_X12_runs (M : Mem) (a0 : Nat) (p1 : Int32) : Option (Mem × Int32) :=
  grd (okO M 12 a0) (Option.bind (f_X12_goesAlong M a0 p1 0) (fun q2 => bv (mI q2 a0 50 : Int32) (fun x7 => bv (mI q2 a0 26 : Int32) (fun x8 => Option.bind (loopO (σ := Mem × Int32) (ρ := Mem ⊕ (Mem ⊕ (Mem × Int32))) (fun s9 => if x7 ≤ s9.2 then (some (.inr (.inl s9.1))) else (Option.bind (f_X12_goesAlong s9.1 a0 p1 1) (fun q26 => bv (fun (s32 : Mem) => bv (s9.2 + 1 : Int32) (fun x36 => some (.inl (s32, x36)))) (fun j31 => if (mI q26 a0 54) = 0 then (j31 q26) else (if (mI q26 a0 53) = 0 then (some (.inr (.inr (.inl q26)))) else (Option.bind (f_X12_obeys q26 a0) (fun q37 => if 0 ≤ q37.2 then (bv (wI q37.1 a0 47 ((mI q37.1 a0 47) + 1)) (fun M42 => j31 M42)) else (some (.inr (.inr (.inr (q37.1, q37.2)))))))))))) (q2, 0)) (Sum.elim (fun (x20 : Mem) => bv (wI x20 a0 49 x8) (fun M47 => some (M47, 0))) (Sum.elim (fun (x22 : Mem) => some (x22, (-3))) (fun (x24 : Mem × Int32) => some (x24.1, x24.2))))))))
abbrev Y_X12_runs : Sta := (RX12, "runs", cX12_runs, 6, (some .int), 209)
set_option maxRecDepth 100000 in
set_option maxHeartbeats 8000000 in
theorem t_X12_runs {l : Launch} {G : Gh} {M : Mem} {a0 : Nat} {p1 : Int32} {q : Mem × Int32} (h : f_X12_runs M a0 p1 = some q) : Ctr l G yX12_runs Y_X12_runs M [.ref (gh G + a0), .int p1] q.1 (some (.int q.2)) := by
  refine Ctr.of (Y := Y_X12_runs) (L := [some (.ref (gh G + a0)), some (.int p1), none, none, none, none]) (t := Option.bind (f_X12_runs M a0 p1) (fun q => some (q.1, some (.int q.2)))) (by decide) rfl rfl (nle rfl) (Lof_in 4 _ rfl) (fun X hG hl => ?_) (by rw [h]; rfl)
  subst hG
  subst hl
  unfold f_X12_runs
  refine s_aload_n (pc := 0) 0 dX12_runs_0 rfl rfl ?_
  refine s_iload_n (pc := 1) 1 dX12_runs_1 rfl rfl ?_
  refine s_iconst (pc := 2) 0 dX12_runs_2 kc_0 ?_
  refine s_grd (fun o1 => ?_)
  refine s_bind (fun q2 hq3 => ?_)
  have hC4 := t_X12_goesAlong (l := xl X) (G := xG X) hq3
  refine s_callV (pc := 3) (As := [.int p1, .int 0]) (st := []) (nlt rfl) (q := (RX12, TX12, 59)) rfl rfl o1 cl_X12_goesAlong wi_X12_goesAlong wl_X12_goesAlong km_X12_456 rfl rfl (nle rfl) (nle rfl) (nle rfl) dX12_runs_3 hC4 ?_
  have h5 := hC4.1 X
  have o6 := h5.ok o1
  show S0 X _ q2 6 [some (.ref (gh (xG X) + a0)), some (.int p1), none, none, none, none] [] _
  refine s_aload_n (pc := 6) 0 dX12_runs_6 rfl rfl ?_
  refine s_geti (pc := 7) F_12 50 rfl o6 dX12_runs_7 kf_X12_444 ?_
  refine s_istore_n (pc := 10) 2 dX12_runs_10 rfl (nlt rfl) rfl (L' := [some (.ref (gh (xG X) + a0)), some (.int p1), some (.int (mI q2 a0 50)), none, none, none]) rfl ?_
  refine s_bv (fun x7 : Int32 => [some (.ref (gh (xG X) + a0)), some (.int p1), some (.int x7), none, none, none]) (fun x7 => ?_) rfl
  refine s_aload_n (pc := 11) 0 dX12_runs_11 rfl rfl ?_
  refine s_geti (pc := 12) F_12 26 rfl o6 dX12_runs_12 kf_X12_309 ?_
  refine s_istore_n (pc := 15) 3 dX12_runs_15 rfl (nlt rfl) rfl (L' := [some (.ref (gh (xG X) + a0)), some (.int p1), some (.int x7), some (.int (mI q2 a0 26)), none, none]) rfl ?_
  refine s_bv (fun x8 : Int32 => [some (.ref (gh (xG X) + a0)), some (.int p1), some (.int x7), some (.int x8), none, none]) (fun x8 => ?_) rfl
  refine s_iconst (pc := 16) 0 dX12_runs_16 kc_0 ?_
  refine s_istore (pc := 17) dX12_runs_17 (nlt rfl) rfl (L' := [some (.ref (gh (xG X) + a0)), some (.int p1), some (.int x7), some (.int x8), some (.int 0), none]) rfl ?_
  refine s_drop (L' := [some (.ref (gh (xG X) + a0)), some (.int p1), some (.int x7), some (.int x8), some (.int 0), none]) ?_ (And.intro rfl (And.intro rfl (And.intro rfl (And.intro rfl (And.intro rfl trivial)))))
  refine s_loop3 q2 (fun s9 : Mem × Int32 => s9.1) (fun s9 : Mem × Int32 => [some (.ref (gh (xG X) + a0)), some (.int p1), some (.int x7), some (.int x8), some (.int s9.2), none]) (fun x20 : Mem => x20) 81 (fun x20 : Mem => [some (.ref (gh (xG X) + a0)), none, none, some (.int x8), none, none]) (fun x22 : Mem => x22) 48 (fun x22 : Mem => [none, none, none, none, none, none]) (fun x24 : Mem × Int32 => x24.1) 62 (fun x24 : Mem × Int32 => [none, none, none, none, none, some (.int x24.2)]) (fun x20 hx21 => ?_) (fun x22 hx23 => ?_) (fun x24 hx25 => ?_) (fun T11 R13 R15 R17 hT12 hR14 hR16 hR18 s9 hs10 => ?_) (q2, 0) Le.rf
  · show S0 X _ x20 81 [some (.ref (gh (xG X) + a0)), none, none, some (.int x8), none, none] [] _
    have o46 := hx21.ok o6
    refine s_aload_n (pc := 81) 0 dX12_runs_81 rfl rfl ?_
    refine s_iload_n (pc := 82) 3 dX12_runs_82 rfl rfl ?_
    refine s_puti (pc := 83) F_12 49 rfl o46 rfl rfl rfl dX12_runs_83 kf_X12_425 (fun M47 hM48 => ?_)
    have h49 := le_wI hM48
    have o50 := h49.ok o46
    refine s_iconst (pc := 86) 0 dX12_runs_86 kc_0 ?_
    exact s_iret rfl dX12_runs_87
  · show S0 X _ x22 48 [none, none, none, none, none, none] [] _
    refine s_bipush (pc := 48) (-3) dX12_runs_48 kb_m3 ?_
    exact s_iret rfl dX12_runs_50
  · show S0 X _ x24.1 62 [none, none, none, none, none, some (.int x24.2)] [] _
    refine s_iload (pc := 62) dX12_runs_62 rfl ?_
    exact s_iret rfl dX12_runs_64
  · show S0 X _ s9.1 19 [some (.ref (gh (xG X) + a0)), some (.int p1), some (.int x7), some (.int x8), some (.int s9.2), none] [] _
    have o19 := hs10.ok o6
    refine s_iload (pc := 19) dX12_runs_19 rfl ?_
    refine s_iload_n (pc := 21) 2 dX12_runs_21 rfl rfl ?_
    refine s_icge (pc := 22) 81 dX12_runs_22 rfl ?_ ?_
    · exact s_drop (hR14 s9.1 hs10) (And.intro rfl (And.intro rfl trivial))
    · refine s_aload_n (pc := 25) 0 dX12_runs_25 rfl rfl ?_
      refine s_iload_n (pc := 26) 1 dX12_runs_26 rfl rfl ?_
      refine s_iconst (pc := 27) 1 dX12_runs_27 kc_1 ?_
      refine s_bind (fun q26 hq27 => ?_)
      have hC28 := t_X12_goesAlong (l := xl X) (G := xG X) hq27
      refine s_callV (pc := 28) (As := [.int p1, .int 1]) (st := []) (nlt rfl) (q := (RX12, TX12, 59)) rfl rfl o19 cl_X12_goesAlong wi_X12_goesAlong wl_X12_goesAlong km_X12_456 rfl rfl (nle rfl) (nle rfl) (nle rfl) dX12_runs_28 hC28 ?_
      have h29 := hC28.1 X
      have o30 := h29.ok o19
      show S0 X _ q26 31 [some (.ref (gh (xG X) + a0)), some (.int p1), some (.int x7), some (.int x8), some (.int s9.2), none] [] _
      refine s_aload_n (pc := 31) 0 dX12_runs_31 rfl rfl ?_
      refine s_geti (pc := 32) F_12 54 rfl o30 dX12_runs_32 kf_X12_447 ?_
      refine s_join q26 (fun s32 : Mem => s32) 75 (fun s32 : Mem => [some (.ref (gh (xG X) + a0)), some (.int p1), some (.int x7), some (.int x8), some (.int s9.2), none]) (fun s32 : Mem => []) (fun s32 hs33 => ?_) (fun j31 hj34 => ?_)
      · show S0 X _ s32 75 [some (.ref (gh (xG X) + a0)), some (.int p1), some (.int x7), some (.int x8), some (.int s9.2), none] [] _
        have o35 := hs33.ok o30
        refine s_iinc (pc := 75) dX12_runs_75 rfl (v := s9.2 + 1) (congrArg (fun z : Int32 => s9.2 + z) kc_1) (nlt rfl) rfl (L' := [some (.ref (gh (xG X) + a0)), some (.int p1), some (.int x7), some (.int x8), some (.int (s9.2 + 1)), none]) rfl ?_
        refine s_bv (fun x36 : Int32 => [some (.ref (gh (xG X) + a0)), some (.int p1), some (.int x7), some (.int x8), some (.int x36), none]) (fun x36 => ?_) rfl
        refine s_goto (pc := 78) 19 dX12_runs_78 rfl ?_
        exact s_drop (hT12 (s32, x36) (hs10.tr (h29.tr hs33))) (And.intro rfl (And.intro rfl (And.intro rfl (And.intro rfl (And.intro rfl trivial)))))
      · refine s_ifne (pc := 35) 41 dX12_runs_35 rfl ?_ ?_
        · refine s_aload_n (pc := 41) 0 dX12_runs_41 rfl rfl ?_
          refine s_geti (pc := 42) F_12 53 rfl o30 dX12_runs_42 kf_X12_431 ?_
          refine s_ifne (pc := 45) 51 dX12_runs_45 rfl ?_ ?_
          · refine s_aload_n (pc := 51) 0 dX12_runs_51 rfl rfl ?_
            refine s_bind (fun q37 hq38 => ?_)
            have hC39 := t_X12_obeys (l := xl X) (G := xG X) hq38
            refine s_callV (pc := 52) (As := []) (st := []) (nlt rfl) (q := (RX12, TX12, 59)) rfl rfl o30 cl_X12_obeys wi_X12_obeys wl_X12_obeys km_X12_459 rfl rfl (nle rfl) (nle rfl) (nle rfl) dX12_runs_52 hC39 ?_
            have h40 := hC39.1 X
            have o41 := h40.ok o30
            show S0 X _ q37.1 55 [some (.ref (gh (xG X) + a0)), some (.int p1), some (.int x7), some (.int x8), some (.int s9.2), none] [.int q37.2] _
            refine s_istore (pc := 55) dX12_runs_55 (nlt rfl) rfl (L' := [some (.ref (gh (xG X) + a0)), some (.int p1), some (.int x7), some (.int x8), some (.int s9.2), some (.int q37.2)]) rfl ?_
            refine s_iload (pc := 57) dX12_runs_57 rfl ?_
            refine s_ifge (pc := 59) 65 dX12_runs_59 rfl ?_ ?_
            · refine s_aload_n (pc := 65) 0 dX12_runs_65 rfl rfl ?_
              refine s_dup (pc := 66) dX12_runs_66 rfl ?_
              refine s_geti (pc := 67) F_12 47 rfl o41 dX12_runs_67 kf_X12_419 ?_
              refine s_iconst (pc := 70) 1 dX12_runs_70 kc_1 ?_
              refine s_iadd (pc := 71) dX12_runs_71 ?_
              refine s_puti (pc := 72) F_12 47 rfl o41 rfl rfl rfl dX12_runs_72 kf_X12_419 (fun M42 hM43 => ?_)
              have h44 := le_wI hM43
              have o45 := h44.ok o41
              exact s_drop (hj34 M42 (h40.tr h44)) (And.intro rfl (And.intro rfl (And.intro rfl (And.intro rfl (And.intro rfl trivial)))))
            · exact s_drop (hR18 (q37.1, q37.2) (hs10.tr (h29.tr h40))) (And.intro rfl trivial)
          · exact s_drop (hR16 q26 (hs10.tr h29)) trivial
        · refine s_goto (pc := 38) 75 dX12_runs_38 rfl ?_
          exact s_drop (hj34 q26 Le.rf) (And.intro rfl (And.intro rfl (And.intro rfl (And.intro rfl (And.intro rfl trivial)))))
