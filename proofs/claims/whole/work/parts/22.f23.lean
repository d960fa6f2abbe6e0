noncomputable def f_X2_undoOut (M : Mem) (a0 : Nat) (x1 : Int32) (x2 : Int32) (x3 : Int32) : Option Mem :=
  grd (vp_in x2 7) (bv (x1 - (stV x2.toNatClampNeg) : Int32) (fun x2 => Option.bind (loopO (σ := Mem × Int32 × Int32 × Int32 × Int32) (ρ := Mem) (fun s3 => if s3.2.2.2.2 < 0 then (some (.inr s3.1)) else (grd (vp_in (x2 + 1) 7) (bv (((stV (x2 + 1).toNatClampNeg) + ((s3.2.1 * 6) * s3.2.2.2.1)) + s3.2.2.1 : Int32) (fun x12 => Option.bind (loopO (σ := Mem × Int32 × Int32) (ρ := Mem) (fun s13 => if 6 ≤ s13.2.2 then (some (.inr s13.1)) else (grd (okO s13.1 2 a0) (Option.bind (mR s13.1 a0 2) (fun r22 => grd (okO s13.1 16 r22) (grd (vp_in s13.2.1 (mL s13.1 r22)) (bv (fun (s26 : Mem) => bv (s13.2.1 + s3.2.2.2.1 : Int32) (fun x30 => bv (s13.2.2 + 1 : Int32) (fun x31 => some (.inl (s26, x30, x31))))) (fun j25 => if (mI s13.1 r22 s13.2.1.toNatClampNeg) = (-1) then (Option.bind (mR s13.1 a0 1) (fun r32 => grd (okO s13.1 8 r32) (Option.bind (f_X8_weightOf s13.1 r32 0 s13.2.2 s3.2.2.2.2 (x2 + 1) (((sr x3 (3 * s13.2.2)) &&& 7) + 1)) (fun q34 => if q34.2 = (-1) then (j25 q34.1) else (Option.bind (f_X2_note q34.1 a0 s13.2.1) (fun q39 => j25 q39)))))) else (j25 s13.1)))))))) (s3.1, x12, 0)) (fun (x19 : Mem) => bv (s3.2.2.1 + ((ir s3.2.1 6) * s3.2.2.2.1) : Int32) (fun x44 => bv (s3.2.1 / 6 : Int32) (fun x45 => bv (s3.2.2.2.1 * 6 : Int32) (fun x46 => bv (s3.2.2.2.2 + (-1) : Int32) (fun x47 => some (.inl (x19, x45, x44, x46, x47))))))))))) (M, x2, 0, 1, x2)) (fun (x9 : Mem) => some x9)))
abbrev Y_X2_undoOut : Sta := (RX2, "undoOut", cX2_undoOut, 10, none, 5)
set_option maxRecDepth 100000 in
set_option maxHeartbeats 8000000 in
theorem t_X2_undoOut {l : Launch} {G : Gh} {M : Mem} {a0 : Nat} {x1 : Int32} {x2 : Int32} {x3 : Int32} {q : Mem} (h : f_X2_undoOut M a0 x1 x2 x3 = some q) : Ctr l G yX2_undoOut Y_X2_undoOut M [.ref (gh G + a0), .int x1, .int x2, .int x3] q (none) := by
  refine Ctr.of (Y := Y_X2_undoOut) (L := [some (.ref (gh G + a0)), some (.int x1), some (.int x2), some (.int x3), none, none, none, none, none, none]) (t := Option.bind (f_X2_undoOut M a0 x1 x2 x3) (fun q => some (q, (none : Option Value)))) (by decide) rfl rfl (nle rfl) (Lof_in 6 _ rfl) (fun X hG hl => ?_) (by rw [h]; rfl)
  subst hG
  subst hl
  unfold f_X2_undoOut
  refine s_iload_n (pc := 0) 1 dX2_undoOut_0 rfl rfl ?_
  refine s_start (pc := 1) dX2_undoOut_1 (List.mem_of_getElem? (i := 24) rfl) ?_
  refine s_iload_n (pc := 4) 2 dX2_undoOut_4 rfl rfl ?_
  refine s_grd (fun i1 => ?_)
  refine s_sti (pc := 5) i1 dX2_undoOut_5 ?_
  refine s_isub (pc := 6) dX2_undoOut_6 ?_
  refine s_istore (pc := 7) dX2_undoOut_7 (nlt rfl) rfl (L' := [some (.ref (gh (xG X) + a0)), some (.int x1), some (.int x2), some (.int x3), some (.int (x1 - (stV x2.toNatClampNeg))), none, none, none, none, none]) rfl ?_
  refine s_bv (fun x2 : Int32 => [some (.ref (gh (xG X) + a0)), some (.int x1), some (.int x2), some (.int x3), some (.int x2), none, none, none, none, none]) (fun x2 => ?_) rfl
  refine s_iconst (pc := 9) 0 dX2_undoOut_9 kc_0 ?_
  refine s_istore (pc := 10) dX2_undoOut_10 (nlt rfl) rfl (L' := [some (.ref (gh (xG X) + a0)), some (.int x1), some (.int x2), some (.int x3), some (.int x2), some (.int 0), none, none, none, none]) rfl ?_
  refine s_iconst (pc := 12) 1 dX2_undoOut_12 kc_1 ?_
  refine s_istore (pc := 13) dX2_undoOut_13 (nlt rfl) rfl (L' := [some (.ref (gh (xG X) + a0)), some (.int x1), some (.int x2), some (.int x3), some (.int x2), some (.int 0), some (.int 1), none, none, none]) rfl ?_
  refine s_iload_n (pc := 15) 2 dX2_undoOut_15 rfl rfl ?_
  refine s_istore (pc := 16) dX2_undoOut_16 (nlt rfl) rfl (L' := [some (.ref (gh (xG X) + a0)), some (.int x1), some (.int x2), some (.int x3), some (.int x2), some (.int 0), some (.int 1), some (.int x2), none, none]) rfl ?_
  refine s_drop (L' := [some (.ref (gh (xG X) + a0)), none, some (.int x2), some (.int x3), some (.int x2), some (.int 0), some (.int 1), some (.int x2), none, none]) ?_ (And.intro rfl (And.intro rfl (And.intro rfl (And.intro rfl (And.intro rfl (And.intro rfl (And.intro rfl trivial)))))))
  refine s_loop1 M (fun s3 : Mem × Int32 × Int32 × Int32 × Int32 => s3.1) (fun s3 : Mem × Int32 × Int32 × Int32 × Int32 => [some (.ref (gh (xG X) + a0)), none, some (.int x2), some (.int x3), some (.int s3.2.1), some (.int s3.2.2.1), some (.int s3.2.2.2.1), some (.int s3.2.2.2.2), none, none]) (fun x9 : Mem => x9) 147 (fun x9 : Mem => [none, none, none, none, none, none, none, none, none, none]) (fun x9 hx10 => ?_) (fun T5 R7 hT6 hR8 s3 hs4 => ?_) (M, x2, 0, 1, x2) Le.rf
  · show S0 X _ x9 147 [none, none, none, none, none, none, none, none, none, none] [] _
    exact s_vret rfl dX2_undoOut_147
  · show S0 X _ s3.1 18 [some (.ref (gh (xG X) + a0)), none, some (.int x2), some (.int x3), some (.int s3.2.1), some (.int s3.2.2.1), some (.int s3.2.2.2.1), some (.int s3.2.2.2.2), none, none] [] _
    refine s_iload (pc := 18) dX2_undoOut_18 rfl ?_
    refine s_iflt (pc := 20) 147 dX2_undoOut_20 rfl ?_ ?_
    · exact s_drop (hR8 s3.1 hs4) trivial
    · refine s_start (pc := 23) dX2_undoOut_23 (List.mem_of_getElem? (i := 24) rfl) ?_
      refine s_iload_n (pc := 26) 2 dX2_undoOut_26 rfl rfl ?_
      refine s_iconst (pc := 27) 1 dX2_undoOut_27 kc_1 ?_
      refine s_iadd (pc := 28) dX2_undoOut_28 ?_
      refine s_grd (fun i11 => ?_)
      refine s_sti (pc := 29) i11 dX2_undoOut_29 ?_
      refine s_iload (pc := 30) dX2_undoOut_30 rfl ?_
      refine s_bipush (pc := 32) 6 dX2_undoOut_32 kb_6 ?_
      refine s_imul (pc := 34) dX2_undoOut_34 ?_
      refine s_iload (pc := 35) dX2_undoOut_35 rfl ?_
      refine s_imul (pc := 37) dX2_undoOut_37 ?_
      refine s_iadd (pc := 38) dX2_undoOut_38 ?_
      refine s_iload (pc := 39) dX2_undoOut_39 rfl ?_
      refine s_iadd (pc := 41) dX2_undoOut_41 ?_
      refine s_istore (pc := 42) dX2_undoOut_42 (nlt rfl) rfl (L' := [some (.ref (gh (xG X) + a0)), none, some (.int x2), some (.int x3), some (.int s3.2.1), some (.int s3.2.2.1), some (.int s3.2.2.2.1), some (.int s3.2.2.2.2), some (.int (((stV (x2 + 1).toNatClampNeg) + ((s3.2.1 * 6) * s3.2.2.2.1)) + s3.2.2.1)), none]) rfl ?_
      refine s_bv (fun x12 : Int32 => [some (.ref (gh (xG X) + a0)), none, some (.int x2), some (.int x3), some (.int s3.2.1), some (.int s3.2.2.1), some (.int s3.2.2.2.1), some (.int s3.2.2.2.2), some (.int x12), none]) (fun x12 => ?_) rfl
      refine s_iconst (pc := 44) 0 dX2_undoOut_44 kc_0 ?_
      refine s_istore (pc := 45) dX2_undoOut_45 (nlt rfl) rfl (L' := [some (.ref (gh (xG X) + a0)), none, some (.int x2), some (.int x3), some (.int s3.2.1), some (.int s3.2.2.1), some (.int s3.2.2.2.1), some (.int s3.2.2.2.2), some (.int x12), some (.int 0)]) rfl ?_
      refine s_drop (L' := [some (.ref (gh (xG X) + a0)), none, some (.int x2), some (.int x3), some (.int s3.2.1), some (.int s3.2.2.1), some (.int s3.2.2.2.1), some (.int s3.2.2.2.2), some (.int x12), some (.int 0)]) ?_ (And.intro rfl (And.intro rfl (And.intro rfl (And.intro rfl (And.intro rfl (And.intro rfl (And.intro rfl (And.intro rfl (And.intro rfl trivial)))))))))
      refine s_loop1 s3.1 (fun s13 : Mem × Int32 × Int32 => s13.1) (fun s13 : Mem × Int32 × Int32 => [some (.ref (gh (xG X) + a0)), none, some (.int x2), some (.int x3), some (.int s3.2.1), some (.int s3.2.2.1), some (.int s3.2.2.2.1), some (.int s3.2.2.2.2), some (.int s13.2.1), some (.int s13.2.2)]) (fun x19 : Mem => x19) 114 (fun x19 : Mem => [some (.ref (gh (xG X) + a0)), none, some (.int x2), some (.int x3), some (.int s3.2.1), some (.int s3.2.2.1), some (.int s3.2.2.2.1), some (.int s3.2.2.2.2), none, none]) (fun x19 hx20 => ?_) (fun T15 R17 hT16 hR18 s13 hs14 => ?_) (s3.1, x12, 0) Le.rf
      · show S0 X _ x19 114 [some (.ref (gh (xG X) + a0)), none, some (.int x2), some (.int x3), some (.int s3.2.1), some (.int s3.2.2.1), some (.int s3.2.2.2.1), some (.int s3.2.2.2.2), none, none] [] _
        refine s_iload (pc := 114) dX2_undoOut_114 rfl ?_
        refine s_iload (pc := 116) dX2_undoOut_116 rfl ?_
        refine s_bipush (pc := 118) 6 dX2_undoOut_118 kb_6 ?_
        refine s_irem (pc := 120) dX2_undoOut_120 (by decide) ?_
        refine s_iload (pc := 121) dX2_undoOut_121 rfl ?_
        refine s_imul (pc := 123) dX2_undoOut_123 ?_
        refine s_iadd (pc := 124) dX2_undoOut_124 ?_
        refine s_istore (pc := 125) dX2_undoOut_125 (nlt rfl) rfl (L' := [some (.ref (gh (xG X) + a0)), none, some (.int x2), some (.int x3), some (.int s3.2.1), some (.int (s3.2.2.1 + ((ir s3.2.1 6) * s3.2.2.2.1))), some (.int s3.2.2.2.1), some (.int s3.2.2.2.2), none, none]) rfl ?_
        refine s_bv (fun x44 : Int32 => [some (.ref (gh (xG X) + a0)), none, some (.int x2), some (.int x3), some (.int s3.2.1), some (.int x44), some (.int s3.2.2.2.1), some (.int s3.2.2.2.2), none, none]) (fun x44 => ?_) rfl
        refine s_iload (pc := 127) dX2_undoOut_127 rfl ?_
        refine s_bipush (pc := 129) 6 dX2_undoOut_129 kb_6 ?_
        refine s_idiv (pc := 131) dX2_undoOut_131 (by decide) ?_
        refine s_istore (pc := 132) dX2_undoOut_132 (nlt rfl) rfl (L' := [some (.ref (gh (xG X) + a0)), none, some (.int x2), some (.int x3), some (.int (s3.2.1 / 6)), some (.int x44), some (.int s3.2.2.2.1), some (.int s3.2.2.2.2), none, none]) rfl ?_
        refine s_bv (fun x45 : Int32 => [some (.ref (gh (xG X) + a0)), none, some (.int x2), some (.int x3), some (.int x45), some (.int x44), some (.int s3.2.2.2.1), some (.int s3.2.2.2.2), none, none]) (fun x45 => ?_) rfl
        refine s_iload (pc := 134) dX2_undoOut_134 rfl ?_
        refine s_bipush (pc := 136) 6 dX2_undoOut_136 kb_6 ?_
        refine s_imul (pc := 138) dX2_undoOut_138 ?_
        refine s_istore (pc := 139) dX2_undoOut_139 (nlt rfl) rfl (L' := [some (.ref (gh (xG X) + a0)), none, some (.int x2), some (.int x3), some (.int x45), some (.int x44), some (.int (s3.2.2.2.1 * 6)), some (.int s3.2.2.2.2), none, none]) rfl ?_
        refine s_bv (fun x46 : Int32 => [some (.ref (gh (xG X) + a0)), none, some (.int x2), some (.int x3), some (.int x45), some (.int x44), some (.int x46), some (.int s3.2.2.2.2), none, none]) (fun x46 => ?_) rfl
        refine s_iinc (pc := 141) dX2_undoOut_141 rfl (v := s3.2.2.2.2 + (-1)) (congrArg (fun z : Int32 => s3.2.2.2.2 + z) kc_m1) (nlt rfl) rfl (L' := [some (.ref (gh (xG X) + a0)), none, some (.int x2), some (.int x3), some (.int x45), some (.int x44), some (.int x46), some (.int (s3.2.2.2.2 + (-1))), none, none]) rfl ?_
        refine s_bv (fun x47 : Int32 => [some (.ref (gh (xG X) + a0)), none, some (.int x2), some (.int x3), some (.int x45), some (.int x44), some (.int x46), some (.int x47), none, none]) (fun x47 => ?_) rfl
        refine s_goto (pc := 144) 18 dX2_undoOut_144 rfl ?_
        exact s_drop (hT6 (x19, x45, x44, x46, x47) (hs4.tr hx20)) (And.intro rfl (And.intro rfl (And.intro rfl (And.intro rfl (And.intro rfl (And.intro rfl (And.intro rfl trivial)))))))
      · show S0 X _ s13.1 47 [some (.ref (gh (xG X) + a0)), none, some (.int x2), some (.int x3), some (.int s3.2.1), some (.int s3.2.2.1), some (.int s3.2.2.2.1), some (.int s3.2.2.2.2), some (.int s13.2.1), some (.int s13.2.2)] [] _
        refine s_iload (pc := 47) dX2_undoOut_47 rfl ?_
        refine s_bipush (pc := 49) 6 dX2_undoOut_49 kb_6 ?_
        refine s_icge (pc := 51) 114 dX2_undoOut_51 rfl ?_ ?_
        · exact s_drop (hR18 s13.1 hs14) (And.intro rfl (And.intro rfl (And.intro rfl (And.intro rfl (And.intro rfl (And.intro rfl (And.intro rfl trivial)))))))
        · refine s_aload_n (pc := 54) 0 dX2_undoOut_54 rfl rfl ?_
          refine s_grd (fun o21 => ?_)
          refine s_geto (pc := 55) F_2 2 rfl o21 dX2_undoOut_55 kf_X2_9 ?_
          refine s_rvB (fun r22 => ?_)
          refine s_iload (pc := 58) dX2_undoOut_58 rfl ?_
          refine s_grd (fun o23 => ?_)
          refine s_grd (fun i24 => ?_)
          refine s_sald (pc := 60) o23 i24 dX2_undoOut_60 ?_
          refine s_iconst (pc := 61) (-1) dX2_undoOut_61 kc_m1 ?_
          refine s_join s13.1 (fun s26 : Mem => s26) 101 (fun s26 : Mem => [some (.ref (gh (xG X) + a0)), none, some (.int x2), some (.int x3), some (.int s3.2.1), some (.int s3.2.2.1), some (.int s3.2.2.2.1), some (.int s3.2.2.2.2), some (.int s13.2.1), some (.int s13.2.2)]) (fun s26 : Mem => []) (fun s26 hs27 => ?_) (fun j25 hj28 => ?_)
          · show S0 X _ s26 101 [some (.ref (gh (xG X) + a0)), none, some (.int x2), some (.int x3), some (.int s3.2.1), some (.int s3.2.2.1), some (.int s3.2.2.2.1), some (.int s3.2.2.2.2), some (.int s13.2.1), some (.int s13.2.2)] [] _
            have o29 := hs27.ok o21
            refine s_iload (pc := 101) dX2_undoOut_101 rfl ?_
            refine s_iload (pc := 103) dX2_undoOut_103 rfl ?_
            refine s_iadd (pc := 105) dX2_undoOut_105 ?_
            refine s_istore (pc := 106) dX2_undoOut_106 (nlt rfl) rfl (L' := [some (.ref (gh (xG X) + a0)), none, some (.int x2), some (.int x3), some (.int s3.2.1), some (.int s3.2.2.1), some (.int s3.2.2.2.1), some (.int s3.2.2.2.2), some (.int (s13.2.1 + s3.2.2.2.1)), some (.int s13.2.2)]) rfl ?_
            refine s_bv (fun x30 : Int32 => [some (.ref (gh (xG X) + a0)), none, some (.int x2), some (.int x3), some (.int s3.2.1), some (.int s3.2.2.1), some (.int s3.2.2.2.1), some (.int s3.2.2.2.2), some (.int x30), some (.int s13.2.2)]) (fun x30 => ?_) rfl
            refine s_iinc (pc := 108) dX2_undoOut_108 rfl (v := s13.2.2 + 1) (congrArg (fun z : Int32 => s13.2.2 + z) kc_1) (nlt rfl) rfl (L' := [some (.ref (gh (xG X) + a0)), none, some (.int x2), some (.int x3), some (.int s3.2.1), some (.int s3.2.2.1), some (.int s3.2.2.2.1), some (.int s3.2.2.2.2), some (.int x30), some (.int (s13.2.2 + 1))]) rfl ?_
            refine s_bv (fun x31 : Int32 => [some (.ref (gh (xG X) + a0)), none, some (.int x2), some (.int x3), some (.int s3.2.1), some (.int s3.2.2.1), some (.int s3.2.2.2.1), some (.int s3.2.2.2.2), some (.int x30), some (.int x31)]) (fun x31 => ?_) rfl
            refine s_goto (pc := 111) 47 dX2_undoOut_111 rfl ?_
            exact s_drop (hT16 (s26, x30, x31) (hs14.tr hs27)) (And.intro rfl (And.intro rfl (And.intro rfl (And.intro rfl (And.intro rfl (And.intro rfl (And.intro rfl (And.intro rfl (And.intro rfl trivial)))))))))
          · refine s_icne (pc := 62) 101 dX2_undoOut_62 rfl ?_ ?_
            · exact s_drop (hj28 s13.1 Le.rf) (And.intro rfl (And.intro rfl (And.intro rfl (And.intro rfl (And.intro rfl (And.intro rfl (And.intro rfl (And.intro rfl (And.intro rfl trivial)))))))))
            · refine s_aload_n (pc := 65) 0 dX2_undoOut_65 rfl rfl ?_
              refine s_geto (pc := 66) F_2 1 rfl o21 dX2_undoOut_66 kf_X2_22 ?_
              refine s_rvB (fun r32 => ?_)
              refine s_iconst (pc := 69) 0 dX2_undoOut_69 kc_0 ?_
              refine s_iload (pc := 70) dX2_undoOut_70 rfl ?_
              refine s_iload (pc := 72) dX2_undoOut_72 rfl ?_
              refine s_iload_n (pc := 74) 2 dX2_undoOut_74 rfl rfl ?_
              refine s_iconst (pc := 75) 1 dX2_undoOut_75 kc_1 ?_
              refine s_iadd (pc := 76) dX2_undoOut_76 ?_
              refine s_iload_n (pc := 77) 3 dX2_undoOut_77 rfl rfl ?_
              refine s_iconst (pc := 78) 3 dX2_undoOut_78 kc_3 ?_
              refine s_iload (pc := 79) dX2_undoOut_79 rfl ?_
              refine s_imul (pc := 81) dX2_undoOut_81 ?_
              refine s_ishr (pc := 82) dX2_undoOut_82 ?_
              refine s_bipush (pc := 83) 7 dX2_undoOut_83 kb_7 ?_
              refine s_iand (pc := 85) dX2_undoOut_85 ?_
              refine s_iconst (pc := 86) 1 dX2_undoOut_86 kc_1 ?_
              refine s_iadd (pc := 87) dX2_undoOut_87 ?_
              refine s_grd (fun o33 => ?_)
              refine s_bind (fun q34 hq35 => ?_)
              have hC36 := t_X8_weightOf (l := xl X) (G := xG X) hq35
              refine s_callV (pc := 88) (As := [.int 0, .int s13.2.2, .int s3.2.2.2.2, .int (x2 + 1), .int (((sr x3 (3 * s13.2.2)) &&& 7) + 1)]) (st := []) (nlt rfl) (q := (RX8, TX8, 7)) rfl rfl o33 cl_X8_weightOf wi_X8_weightOf wl_X8_weightOf km_X2_97 rfl rfl (nle rfl) (nle rfl) (nle rfl) dX2_undoOut_88 hC36 ?_
              have h37 := hC36.1 X
              have o38 := h37.ok o21
              show S0 X _ q34.1 91 [some (.ref (gh (xG X) + a0)), none, some (.int x2), some (.int x3), some (.int s3.2.1), some (.int s3.2.2.1), some (.int s3.2.2.2.1), some (.int s3.2.2.2.2), some (.int s13.2.1), some (.int s13.2.2)] [.int q34.2] _
              refine s_iconst (pc := 91) (-1) dX2_undoOut_91 kc_m1 ?_
              refine s_iceq (pc := 92) 101 dX2_undoOut_92 rfl ?_ ?_
              · exact s_drop (hj28 q34.1 h37) (And.intro rfl (And.intro rfl (And.intro rfl (And.intro rfl (And.intro rfl (And.intro rfl (And.intro rfl (And.intro rfl (And.intro rfl trivial)))))))))
              · refine s_aload_n (pc := 95) 0 dX2_undoOut_95 rfl rfl ?_
                refine s_iload (pc := 96) dX2_undoOut_96 rfl ?_
                refine s_bind (fun q39 hq40 => ?_)
                have hC41 := t_X2_note (l := xl X) (G := xG X) hq40
                refine s_callV (pc := 98) (As := [.int s13.2.1]) (st := []) (nlt rfl) (q := (RX2, TX2, 11)) rfl rfl o38 cl_X2_note wi_X2_note wl_X2_note km_X2_62 rfl rfl (nle rfl) (nle rfl) (nle rfl) dX2_undoOut_98 hC41 ?_
                have h42 := hC41.1 X
                have o43 := h42.ok o38
                show S0 X _ q39 101 [some (.ref (gh (xG X) + a0)), none, some (.int x2), some (.int x3), some (.int s3.2.1), some (.int s3.2.2.1), some (.int s3.2.2.2.1), some (.int s3.2.2.2.2), some (.int s13.2.1), some (.int s13.2.2)] [] _
                exact s_drop (hj28 q39 (h37.tr h42)) (And.intro rfl (And.intro rfl (And.intro rfl (And.intro rfl (And.intro rfl (And.intro rfl (And.intro rfl (And.intro rfl (And.intro rfl trivial)))))))))
noncomputable def f_X2_undoStand (M : Mem) (a0 : Nat) (x1 : Int32) (x2 : Int32) (x3 : Int32) : Option Mem :=
  grd (vp_in x2 7) (bv (x1 - (stV x2.toNatClampNeg) : Int32) (fun x2 => bv (x2 - 1 : Int32) (fun x3 => Option.bind (loopO (σ := Mem × Int32 × Int32 × Int32) (ρ := Mem) (fun s4 => if s4.2.2.2 < 0 then (some (.inr s4.1)) else (bv (ir s4.2.1 6 : Int32) (fun x12 => Option.bind (loopO (σ := Mem × Int32) (ρ := Mem) (fun s13 => if 6 ≤ s13.2 then (some (.inr s13.1)) else (grd (okO s13.1 2 a0) (if ((sr (mI s13.1 a0 10) x12) &&& 1) = 1 then (bv (x1 + ((s13.2 - x12) * s4.2.2.1) : Int32) (fun x22 => Option.bind (mR s13.1 a0 0) (fun r23 => grd (okO s13.1 10 r23) (Option.bind (mR s13.1 r23 2) (fun r25 => grd (okO s13.1 14 r25) (grd (vp_in s13.2 (mL s13.1 r25)) (bv (fun (s29 : Mem) => bv (s13.2 + 1 : Int32) (fun x33 => some (.inl (s29, x33)))) (fun j28 => if (mI s13.1 r25 s13.2.toNatClampNeg) = x12 then (Option.bind (mR s13.1 a0 2) (fun r34 => grd (okO s13.1 16 r34) (grd (vp_in x22 (mL s13.1 r34)) (if (mI s13.1 r34 x22.toNatClampNeg) = (-1) then (Option.bind (mR s13.1 a0 1) (fun r37 => grd (okO s13.1 8 r37) (Option.bind (f_X8_weightOf s13.1 r37 4 s13.2 s4.2.2.2 x2 (((sr x3 (3 * s13.2)) &&& 7) + 1)) (fun q39 => if q39.2 = (-1) then (j28 q39.1) else (Option.bind (f_X2_note q39.1 a0 x22) (fun q44 => j28 q44)))))) else (j28 s13.1))))) else (j28 s13.1))))))))) else (some (.inr s13.1))))) (s4.1, 0)) (fun (x19 : Mem) => bv (s4.2.1 / 6 : Int32) (fun x49 => bv (s4.2.2.1 * 6 : Int32) (fun x50 => bv (s4.2.2.2 + (-1) : Int32) (fun x51 => some (.inl (x19, x49, x50, x51))))))))) (M, x2, 1, x3)) (fun (x10 : Mem) => some x10))))
abbrev Y_X2_undoStand : Sta := (RX2, "undoStand", cX2_undoStand, 10, none, 5)
set_option maxRecDepth 100000 in
set_option maxHeartbeats 8000000 in
theorem t_X2_undoStand {l : Launch} {G : Gh} {M : Mem} {a0 : Nat} {x1 : Int32} {x2 : Int32} {x3 : Int32} {q : Mem} (h : f_X2_undoStand M a0 x1 x2 x3 = some q) : Ctr l G yX2_undoStand Y_X2_undoStand M [.ref (gh G + a0), .int x1, .int x2, .int x3] q (none) := by
  refine Ctr.of (Y := Y_X2_undoStand) (L := [some (.ref (gh G + a0)), some (.int x1), some (.int x2), some (.int x3), none, none, none, none, none, none]) (t := Option.bind (f_X2_undoStand M a0 x1 x2 x3) (fun q => some (q, (none : Option Value)))) (by decide) rfl rfl (nle rfl) (Lof_in 6 _ rfl) (fun X hG hl => ?_) (by rw [h]; rfl)
  subst hG
  subst hl
  unfold f_X2_undoStand
  refine s_iload_n (pc := 0) 1 dX2_undoStand_0 rfl rfl ?_
  refine s_start (pc := 1) dX2_undoStand_1 (List.mem_of_getElem? (i := 24) rfl) ?_
  refine s_iload_n (pc := 4) 2 dX2_undoStand_4 rfl rfl ?_
  refine s_grd (fun i1 => ?_)
  refine s_sti (pc := 5) i1 dX2_undoStand_5 ?_
  refine s_isub (pc := 6) dX2_undoStand_6 ?_
  refine s_istore (pc := 7) dX2_undoStand_7 (nlt rfl) rfl (L' := [some (.ref (gh (xG X) + a0)), some (.int x1), some (.int x2), some (.int x3), some (.int (x1 - (stV x2.toNatClampNeg))), none, none, none, none, none]) rfl ?_
  refine s_bv (fun x2 : Int32 => [some (.ref (gh (xG X) + a0)), some (.int x1), some (.int x2), some (.int x3), some (.int x2), none, none, none, none, none]) (fun x2 => ?_) rfl
  refine s_iconst (pc := 9) 1 dX2_undoStand_9 kc_1 ?_
  refine s_istore (pc := 10) dX2_undoStand_10 (nlt rfl) rfl (L' := [some (.ref (gh (xG X) + a0)), some (.int x1), some (.int x2), some (.int x3), some (.int x2), some (.int 1), none, none, none, none]) rfl ?_
  refine s_iload_n (pc := 12) 2 dX2_undoStand_12 rfl rfl ?_
  refine s_iconst (pc := 13) 1 dX2_undoStand_13 kc_1 ?_
  refine s_isub (pc := 14) dX2_undoStand_14 ?_
  refine s_istore (pc := 15) dX2_undoStand_15 (nlt rfl) rfl (L' := [some (.ref (gh (xG X) + a0)), some (.int x1), some (.int x2), some (.int x3), some (.int x2), some (.int 1), some (.int (x2 - 1)), none, none, none]) rfl ?_
  refine s_bv (fun x3 : Int32 => [some (.ref (gh (xG X) + a0)), some (.int x1), some (.int x2), some (.int x3), some (.int x2), some (.int 1), some (.int x3), none, none, none]) (fun x3 => ?_) rfl
  refine s_drop (L' := [some (.ref (gh (xG X) + a0)), some (.int x1), some (.int x2), some (.int x3), some (.int x2), some (.int 1), some (.int x3), none, none, none]) ?_ (And.intro rfl (And.intro rfl (And.intro rfl (And.intro rfl (And.intro rfl (And.intro rfl (And.intro rfl trivial)))))))
  refine s_loop1 M (fun s4 : Mem × Int32 × Int32 × Int32 => s4.1) (fun s4 : Mem × Int32 × Int32 × Int32 => [some (.ref (gh (xG X) + a0)), some (.int x1), some (.int x2), some (.int x3), some (.int s4.2.1), some (.int s4.2.2.1), some (.int s4.2.2.2), none, none, none]) (fun x10 : Mem => x10) 150 (fun x10 : Mem => [none, none, none, none, none, none, none, none, none, none]) (fun x10 hx11 => ?_) (fun T6 R8 hT7 hR9 s4 hs5 => ?_) (M, x2, 1, x3) Le.rf
  · show S0 X _ x10 150 [none, none, none, none, none, none, none, none, none, none] [] _
    exact s_vret rfl dX2_undoStand_150
  · show S0 X _ s4.1 17 [some (.ref (gh (xG X) + a0)), some (.int x1), some (.int x2), some (.int x3), some (.int s4.2.1), some (.int s4.2.2.1), some (.int s4.2.2.2), none, none, none] [] _
    refine s_iload (pc := 17) dX2_undoStand_17 rfl ?_
    refine s_iflt (pc := 19) 150 dX2_undoStand_19 rfl ?_ ?_
    · exact s_drop (hR9 s4.1 hs5) trivial
    · refine s_iload (pc := 22) dX2_undoStand_22 rfl ?_
      refine s_bipush (pc := 24) 6 dX2_undoStand_24 kb_6 ?_
      refine s_irem (pc := 26) dX2_undoStand_26 (by decide) ?_
      refine s_istore (pc := 27) dX2_undoStand_27 (nlt rfl) rfl (L' := [some (.ref (gh (xG X) + a0)), some (.int x1), some (.int x2), some (.int x3), some (.int s4.2.1), some (.int s4.2.2.1), some (.int s4.2.2.2), some (.int (ir s4.2.1 6)), none, none]) rfl ?_
      refine s_bv (fun x12 : Int32 => [some (.ref (gh (xG X) + a0)), some (.int x1), some (.int x2), some (.int x3), some (.int s4.2.1), some (.int s4.2.2.1), some (.int s4.2.2.2), some (.int x12), none, none]) (fun x12 => ?_) rfl
      refine s_iconst (pc := 29) 0 dX2_undoStand_29 kc_0 ?_
      refine s_istore (pc := 30) dX2_undoStand_30 (nlt rfl) rfl (L' := [some (.ref (gh (xG X) + a0)), some (.int x1), some (.int x2), some (.int x3), some (.int s4.2.1), some (.int s4.2.2.1), some (.int s4.2.2.2), some (.int x12), some (.int 0), none]) rfl ?_
      refine s_drop (L' := [some (.ref (gh (xG X) + a0)), some (.int x1), some (.int x2), some (.int x3), some (.int s4.2.1), some (.int s4.2.2.1), some (.int s4.2.2.2), some (.int x12), some (.int 0), none]) ?_ (And.intro rfl (And.intro rfl (And.intro rfl (And.intro rfl (And.intro rfl (And.intro rfl (And.intro rfl (And.intro rfl (And.intro rfl trivial)))))))))
      refine s_loop1 s4.1 (fun s13 : Mem × Int32 => s13.1) (fun s13 : Mem × Int32 => [some (.ref (gh (xG X) + a0)), some (.int x1), some (.int x2), some (.int x3), some (.int s4.2.1), some (.int s4.2.2.1), some (.int s4.2.2.2), some (.int x12), some (.int s13.2), none]) (fun x19 : Mem => x19) 130 (fun x19 : Mem => [some (.ref (gh (xG X) + a0)), some (.int x1), some (.int x2), some (.int x3), some (.int s4.2.1), some (.int s4.2.2.1), some (.int s4.2.2.2), none, none, none]) (fun x19 hx20 => ?_) (fun T15 R17 hT16 hR18 s13 hs14 => ?_) (s4.1, 0) Le.rf
      · show S0 X _ x19 130 [some (.ref (gh (xG X) + a0)), some (.int x1), some (.int x2), some (.int x3), some (.int s4.2.1), some (.int s4.2.2.1), some (.int s4.2.2.2), none, none, none] [] _
        refine s_iload (pc := 130) dX2_undoStand_130 rfl ?_
        refine s_bipush (pc := 132) 6 dX2_undoStand_132 kb_6 ?_
        refine s_idiv (pc := 134) dX2_undoStand_134 (by decide) ?_
        refine s_istore (pc := 135) dX2_undoStand_135 (nlt rfl) rfl (L' := [some (.ref (gh (xG X) + a0)), some (.int x1), some (.int x2), some (.int x3), some (.int (s4.2.1 / 6)), some (.int s4.2.2.1), some (.int s4.2.2.2), none, none, none]) rfl ?_
        refine s_bv (fun x49 : Int32 => [some (.ref (gh (xG X) + a0)), some (.int x1), some (.int x2), some (.int x3), some (.int x49), some (.int s4.2.2.1), some (.int s4.2.2.2), none, none, none]) (fun x49 => ?_) rfl
        refine s_iload (pc := 137) dX2_undoStand_137 rfl ?_
        refine s_bipush (pc := 139) 6 dX2_undoStand_139 kb_6 ?_
        refine s_imul (pc := 141) dX2_undoStand_141 ?_
        refine s_istore (pc := 142) dX2_undoStand_142 (nlt rfl) rfl (L' := [some (.ref (gh (xG X) + a0)), some (.int x1), some (.int x2), some (.int x3), some (.int x49), some (.int (s4.2.2.1 * 6)), some (.int s4.2.2.2), none, none, none]) rfl ?_
        refine s_bv (fun x50 : Int32 => [some (.ref (gh (xG X) + a0)), some (.int x1), some (.int x2), some (.int x3), some (.int x49), some (.int x50), some (.int s4.2.2.2), none, none, none]) (fun x50 => ?_) rfl
        refine s_iinc (pc := 144) dX2_undoStand_144 rfl (v := s4.2.2.2 + (-1)) (congrArg (fun z : Int32 => s4.2.2.2 + z) kc_m1) (nlt rfl) rfl (L' := [some (.ref (gh (xG X) + a0)), some (.int x1), some (.int x2), some (.int x3), some (.int x49), some (.int x50), some (.int (s4.2.2.2 + (-1))), none, none, none]) rfl ?_
        refine s_bv (fun x51 : Int32 => [some (.ref (gh (xG X) + a0)), some (.int x1), some (.int x2), some (.int x3), some (.int x49), some (.int x50), some (.int x51), none, none, none]) (fun x51 => ?_) rfl
        refine s_goto (pc := 147) 17 dX2_undoStand_147 rfl ?_
        exact s_drop (hT7 (x19, x49, x50, x51) (hs5.tr hx20)) (And.intro rfl (And.intro rfl (And.intro rfl (And.intro rfl (And.intro rfl (And.intro rfl (And.intro rfl trivial)))))))
      · show S0 X _ s13.1 32 [some (.ref (gh (xG X) + a0)), some (.int x1), some (.int x2), some (.int x3), some (.int s4.2.1), some (.int s4.2.2.1), some (.int s4.2.2.2), some (.int x12), some (.int s13.2), none] [] _
        refine s_iload (pc := 32) dX2_undoStand_32 rfl ?_
        refine s_bipush (pc := 34) 6 dX2_undoStand_34 kb_6 ?_
        refine s_icge (pc := 36) 130 dX2_undoStand_36 rfl ?_ ?_
        · exact s_drop (hR18 s13.1 hs14) (And.intro rfl (And.intro rfl (And.intro rfl (And.intro rfl (And.intro rfl (And.intro rfl (And.intro rfl trivial)))))))
        · refine s_aload_n (pc := 39) 0 dX2_undoStand_39 rfl rfl ?_
          refine s_grd (fun o21 => ?_)
          refine s_geti (pc := 40) F_2 10 rfl o21 dX2_undoStand_40 kf_X2_39 ?_
          refine s_iload (pc := 43) dX2_undoStand_43 rfl ?_
          refine s_ishr (pc := 45) dX2_undoStand_45 ?_
          refine s_iconst (pc := 46) 1 dX2_undoStand_46 kc_1 ?_
          refine s_iand (pc := 47) dX2_undoStand_47 ?_
          refine s_iconst (pc := 48) 1 dX2_undoStand_48 kc_1 ?_
          refine s_icne (pc := 49) 130 dX2_undoStand_49 rfl ?_ ?_
          · exact s_drop (hR18 s13.1 hs14) (And.intro rfl (And.intro rfl (And.intro rfl (And.intro rfl (And.intro rfl (And.intro rfl (And.intro rfl trivial)))))))
          · refine s_iload_n (pc := 52) 1 dX2_undoStand_52 rfl rfl ?_
            refine s_iload (pc := 53) dX2_undoStand_53 rfl ?_
            refine s_iload (pc := 55) dX2_undoStand_55 rfl ?_
            refine s_isub (pc := 57) dX2_undoStand_57 ?_
            refine s_iload (pc := 58) dX2_undoStand_58 rfl ?_
            refine s_imul (pc := 60) dX2_undoStand_60 ?_
            refine s_iadd (pc := 61) dX2_undoStand_61 ?_
            refine s_istore (pc := 62) dX2_undoStand_62 (nlt rfl) rfl (L' := [some (.ref (gh (xG X) + a0)), some (.int x1), some (.int x2), some (.int x3), some (.int s4.2.1), some (.int s4.2.2.1), some (.int s4.2.2.2), some (.int x12), some (.int s13.2), some (.int (x1 + ((s13.2 - x12) * s4.2.2.1)))]) rfl ?_
            refine s_bv (fun x22 : Int32 => [some (.ref (gh (xG X) + a0)), some (.int x1), some (.int x2), some (.int x3), some (.int s4.2.1), some (.int s4.2.2.1), some (.int s4.2.2.2), some (.int x12), some (.int s13.2), some (.int x22)]) (fun x22 => ?_) rfl
            refine s_aload_n (pc := 64) 0 dX2_undoStand_64 rfl rfl ?_
            refine s_geto (pc := 65) F_2 0 rfl o21 dX2_undoStand_65 kf_X2_18 ?_
            refine s_rvB (fun r23 => ?_)
            refine s_grd (fun o24 => ?_)
            refine s_getoN (pc := 68) F_10 2 rfl o24 dX2_undoStand_68 (List.mem_of_getElem? (i := 2) rfl) ?_
            refine s_rvB (fun r25 => ?_)
            refine s_iload (pc := 71) dX2_undoStand_71 rfl ?_
            refine s_grd (fun o26 => ?_)
            refine s_grd (fun i27 => ?_)
            refine s_iald (pc := 73) o26 i27 dX2_undoStand_73 ?_
            refine s_iload (pc := 74) dX2_undoStand_74 rfl ?_
            refine s_join s13.1 (fun s29 : Mem => s29) 124 (fun s29 : Mem => [some (.ref (gh (xG X) + a0)), some (.int x1), some (.int x2), some (.int x3), some (.int s4.2.1), some (.int s4.2.2.1), some (.int s4.2.2.2), some (.int x12), some (.int s13.2), none]) (fun s29 : Mem => []) (fun s29 hs30 => ?_) (fun j28 hj31 => ?_)
            · show S0 X _ s29 124 [some (.ref (gh (xG X) + a0)), some (.int x1), some (.int x2), some (.int x3), some (.int s4.2.1), some (.int s4.2.2.1), some (.int s4.2.2.2), some (.int x12), some (.int s13.2), none] [] _
              have o32 := hs30.ok o21
              refine s_iinc (pc := 124) dX2_undoStand_124 rfl (v := s13.2 + 1) (congrArg (fun z : Int32 => s13.2 + z) kc_1) (nlt rfl) rfl (L' := [some (.ref (gh (xG X) + a0)), some (.int x1), some (.int x2), some (.int x3), some (.int s4.2.1), some (.int s4.2.2.1), some (.int s4.2.2.2), some (.int x12), some (.int (s13.2 + 1)), none]) rfl ?_
              refine s_bv (fun x33 : Int32 => [some (.ref (gh (xG X) + a0)), some (.int x1), some (.int x2), some (.int x3), some (.int s4.2.1), some (.int s4.2.2.1), some (.int s4.2.2.2), some (.int x12), some (.int x33), none]) (fun x33 => ?_) rfl
              refine s_goto (pc := 127) 32 dX2_undoStand_127 rfl ?_
              exact s_drop (hT16 (s29, x33) (hs14.tr hs30)) (And.intro rfl (And.intro rfl (And.intro rfl (And.intro rfl (And.intro rfl (And.intro rfl (And.intro rfl (And.intro rfl (And.intro rfl trivial)))))))))
            · refine s_icne (pc := 76) 124 dX2_undoStand_76 rfl ?_ ?_
              · exact s_drop (hj31 s13.1 Le.rf) (And.intro rfl (And.intro rfl (And.intro rfl (And.intro rfl (And.intro rfl (And.intro rfl (And.intro rfl (And.intro rfl (And.intro rfl trivial)))))))))
              · refine s_aload_n (pc := 79) 0 dX2_undoStand_79 rfl rfl ?_
                refine s_geto (pc := 80) F_2 2 rfl o21 dX2_undoStand_80 kf_X2_9 ?_
                refine s_rvB (fun r34 => ?_)
                refine s_iload (pc := 83) dX2_undoStand_83 rfl ?_
                refine s_grd (fun o35 => ?_)
                refine s_grd (fun i36 => ?_)
                refine s_sald (pc := 85) o35 i36 dX2_undoStand_85 ?_
                refine s_iconst (pc := 86) (-1) dX2_undoStand_86 kc_m1 ?_
                refine s_icne (pc := 87) 124 dX2_undoStand_87 rfl ?_ ?_
                · exact s_drop (hj31 s13.1 Le.rf) (And.intro rfl (And.intro rfl (And.intro rfl (And.intro rfl (And.intro rfl (And.intro rfl (And.intro rfl (And.intro rfl (And.intro rfl trivial)))))))))
                · refine s_aload_n (pc := 90) 0 dX2_undoStand_90 rfl rfl ?_
                  refine s_geto (pc := 91) F_2 1 rfl o21 dX2_undoStand_91 kf_X2_22 ?_
                  refine s_rvB (fun r37 => ?_)
                  refine s_iconst (pc := 94) 4 dX2_undoStand_94 kc_4 ?_
                  refine s_iload (pc := 95) dX2_undoStand_95 rfl ?_
                  refine s_iload (pc := 97) dX2_undoStand_97 rfl ?_
                  refine s_iload_n (pc := 99) 2 dX2_undoStand_99 rfl rfl ?_
                  refine s_iload_n (pc := 100) 3 dX2_undoStand_100 rfl rfl ?_
                  refine s_iconst (pc := 101) 3 dX2_undoStand_101 kc_3 ?_
                  refine s_iload (pc := 102) dX2_undoStand_102 rfl ?_
                  refine s_imul (pc := 104) dX2_undoStand_104 ?_
                  refine s_ishr (pc := 105) dX2_undoStand_105 ?_
                  refine s_bipush (pc := 106) 7 dX2_undoStand_106 kb_7 ?_
                  refine s_iand (pc := 108) dX2_undoStand_108 ?_
                  refine s_iconst (pc := 109) 1 dX2_undoStand_109 kc_1 ?_
                  refine s_iadd (pc := 110) dX2_undoStand_110 ?_
                  refine s_grd (fun o38 => ?_)
                  refine s_bind (fun q39 hq40 => ?_)
                  have hC41 := t_X8_weightOf (l := xl X) (G := xG X) hq40
                  refine s_callV (pc := 111) (As := [.int 4, .int s13.2, .int s4.2.2.2, .int x2, .int (((sr x3 (3 * s13.2)) &&& 7) + 1)]) (st := []) (nlt rfl) (q := (RX8, TX8, 7)) rfl rfl o38 cl_X8_weightOf wi_X8_weightOf wl_X8_weightOf km_X2_97 rfl rfl (nle rfl) (nle rfl) (nle rfl) dX2_undoStand_111 hC41 ?_
                  have h42 := hC41.1 X
                  have o43 := h42.ok o21
                  show S0 X _ q39.1 114 [some (.ref (gh (xG X) + a0)), some (.int x1), some (.int x2), some (.int x3), some (.int s4.2.1), some (.int s4.2.2.1), some (.int s4.2.2.2), some (.int x12), some (.int s13.2), some (.int x22)] [.int q39.2] _
                  refine s_iconst (pc := 114) (-1) dX2_undoStand_114 kc_m1 ?_
                  refine s_iceq (pc := 115) 124 dX2_undoStand_115 rfl ?_ ?_
                  · exact s_drop (hj31 q39.1 h42) (And.intro rfl (And.intro rfl (And.intro rfl (And.intro rfl (And.intro rfl (And.intro rfl (And.intro rfl (And.intro rfl (And.intro rfl trivial)))))))))
                  · refine s_aload_n (pc := 118) 0 dX2_undoStand_118 rfl rfl ?_
                    refine s_iload (pc := 119) dX2_undoStand_119 rfl ?_
                    refine s_bind (fun q44 hq45 => ?_)
                    have hC46 := t_X2_note (l := xl X) (G := xG X) hq45
                    refine s_callV (pc := 121) (As := [.int x22]) (st := []) (nlt rfl) (q := (RX2, TX2, 11)) rfl rfl o43 cl_X2_note wi_X2_note wl_X2_note km_X2_62 rfl rfl (nle rfl) (nle rfl) (nle rfl) dX2_undoStand_121 hC46 ?_
                    have h47 := hC46.1 X
                    have o48 := h47.ok o43
                    show S0 X _ q44 124 [some (.ref (gh (xG X) + a0)), some (.int x1), some (.int x2), some (.int x3), some (.int s4.2.1), some (.int s4.2.2.1), some (.int s4.2.2.2), some (.int x12), some (.int s13.2), some (.int x22)] [] _
                    exact s_drop (hj31 q44 (h42.tr h47)) (And.intro rfl (And.intro rfl (And.intro rfl (And.intro rfl (And.intro rfl (And.intro rfl (And.intro rfl (And.intro rfl (And.intro rfl trivial)))))))))
noncomputable def f_X2_undoSwap (M : Mem) (a0 : Nat) (x1 : Int32) (x2 : Int32) (x3 : Int32) : Option Mem :=
  grd (vp_in x2 7) (bv (x1 - (stV x2.toNatClampNeg) : Int32) (fun x2 => bv (ir x2 6 : Int32) (fun x3 => bv (x2 - 2 : Int32) (fun x4 => Option.bind (loopO (σ := Mem × Int32 × Int32 × Int32 × Int32) (ρ := Mem) (fun s5 => if s5.2.2.2.2 < 0 then (some (.inr s5.1)) else (bv (s5.2.1 / 6 : Int32) (fun x13 => bv (ir x13 6 : Int32) (fun x14 => bv (x1 + (((s5.2.2.1 - x14) * s5.2.2.2.1) * 5) : Int32) (fun x15 => grd (okO s5.1 2 a0) (Option.bind (mR s5.1 a0 2) (fun r17 => grd (okO s5.1 16 r17) (grd (vp_in x15 (mL s5.1 r17)) (bv (fun (s21 : Mem) => bv (s5.2.2.2.1 * 6 : Int32) (fun x25 => bv (s5.2.2.2.2 + (-1) : Int32) (fun x26 => some (.inl (s21, x13, x14, x25, x26))))) (fun j20 => if (mI s5.1 r17 x15.toNatClampNeg) = (-1) then (Option.bind (mR s5.1 a0 1) (fun r27 => grd (okO s5.1 8 r27) (Option.bind (f_X8_weightOf s5.1 r27 2 s5.2.2.1 s5.2.2.2.2 x2 ((sr x3 (3 * s5.2.2.1)) &&& 7)) (fun q29 => if q29.2 = (-1) then (j20 q29.1) else (Option.bind (f_X2_note q29.1 a0 x15) (fun q34 => j20 q34)))))) else (j20 s5.1))))))))))) (M, x2, x3, 1, x4)) (fun (x11 : Mem) => some x11)))))
abbrev Y_X2_undoSwap : Sta := (RX2, "undoSwap", cX2_undoSwap, 10, none, 5)
set_option maxRecDepth 100000 in
set_option maxHeartbeats 8000000 in
theorem t_X2_undoSwap {l : Launch} {G : Gh} {M : Mem} {a0 : Nat} {x1 : Int32} {x2 : Int32} {x3 : Int32} {q : Mem} (h : f_X2_undoSwap M a0 x1 x2 x3 = some q) : Ctr l G yX2_undoSwap Y_X2_undoSwap M [.ref (gh G + a0), .int x1, .int x2, .int x3] q (none) := by
  refine Ctr.of (Y := Y_X2_undoSwap) (L := [some (.ref (gh G + a0)), some (.int x1), some (.int x2), some (.int x3), none, none, none, none, none, none]) (t := Option.bind (f_X2_undoSwap M a0 x1 x2 x3) (fun q => some (q, (none : Option Value)))) (by decide) rfl rfl (nle rfl) (Lof_in 6 _ rfl) (fun X hG hl => ?_) (by rw [h]; rfl)
  subst hG
  subst hl
  unfold f_X2_undoSwap
  refine s_iload_n (pc := 0) 1 dX2_undoSwap_0 rfl rfl ?_
  refine s_start (pc := 1) dX2_undoSwap_1 (List.mem_of_getElem? (i := 24) rfl) ?_
  refine s_iload_n (pc := 4) 2 dX2_undoSwap_4 rfl rfl ?_
  refine s_grd (fun i1 => ?_)
  refine s_sti (pc := 5) i1 dX2_undoSwap_5 ?_
  refine s_isub (pc := 6) dX2_undoSwap_6 ?_
  refine s_istore (pc := 7) dX2_undoSwap_7 (nlt rfl) rfl (L' := [some (.ref (gh (xG X) + a0)), some (.int x1), some (.int x2), some (.int x3), some (.int (x1 - (stV x2.toNatClampNeg))), none, none, none, none, none]) rfl ?_
  refine s_bv (fun x2 : Int32 => [some (.ref (gh (xG X) + a0)), some (.int x1), some (.int x2), some (.int x3), some (.int x2), none, none, none, none, none]) (fun x2 => ?_) rfl
  refine s_iload (pc := 9) dX2_undoSwap_9 rfl ?_
  refine s_bipush (pc := 11) 6 dX2_undoSwap_11 kb_6 ?_
  refine s_irem (pc := 13) dX2_undoSwap_13 (by decide) ?_
  refine s_istore (pc := 14) dX2_undoSwap_14 (nlt rfl) rfl (L' := [some (.ref (gh (xG X) + a0)), some (.int x1), some (.int x2), some (.int x3), some (.int x2), some (.int (ir x2 6)), none, none, none, none]) rfl ?_
  refine s_bv (fun x3 : Int32 => [some (.ref (gh (xG X) + a0)), some (.int x1), some (.int x2), some (.int x3), some (.int x2), some (.int x3), none, none, none, none]) (fun x3 => ?_) rfl
  refine s_iconst (pc := 16) 1 dX2_undoSwap_16 kc_1 ?_
  refine s_istore (pc := 17) dX2_undoSwap_17 (nlt rfl) rfl (L' := [some (.ref (gh (xG X) + a0)), some (.int x1), some (.int x2), some (.int x3), some (.int x2), some (.int x3), some (.int 1), none, none, none]) rfl ?_
  refine s_iload_n (pc := 19) 2 dX2_undoSwap_19 rfl rfl ?_
  refine s_iconst (pc := 20) 2 dX2_undoSwap_20 kc_2 ?_
  refine s_isub (pc := 21) dX2_undoSwap_21 ?_
  refine s_istore (pc := 22) dX2_undoSwap_22 (nlt rfl) rfl (L' := [some (.ref (gh (xG X) + a0)), some (.int x1), some (.int x2), some (.int x3), some (.int x2), some (.int x3), some (.int 1), some (.int (x2 - 2)), none, none]) rfl ?_
  refine s_bv (fun x4 : Int32 => [some (.ref (gh (xG X) + a0)), some (.int x1), some (.int x2), some (.int x3), some (.int x2), some (.int x3), some (.int 1), some (.int x4), none, none]) (fun x4 => ?_) rfl
  refine s_drop (L' := [some (.ref (gh (xG X) + a0)), some (.int x1), some (.int x2), some (.int x3), some (.int x2), some (.int x3), some (.int 1), some (.int x4), none, none]) ?_ (And.intro rfl (And.intro rfl (And.intro rfl (And.intro rfl (And.intro rfl (And.intro rfl (And.intro rfl (And.intro rfl trivial))))))))
  refine s_loop1 M (fun s5 : Mem × Int32 × Int32 × Int32 × Int32 => s5.1) (fun s5 : Mem × Int32 × Int32 × Int32 × Int32 => [some (.ref (gh (xG X) + a0)), some (.int x1), some (.int x2), some (.int x3), some (.int s5.2.1), some (.int s5.2.2.1), some (.int s5.2.2.2.1), some (.int s5.2.2.2.2), none, none]) (fun x11 : Mem => x11) 117 (fun x11 : Mem => [none, none, none, none, none, none, none, none, none, none]) (fun x11 hx12 => ?_) (fun T7 R9 hT8 hR10 s5 hs6 => ?_) (M, x2, x3, 1, x4) Le.rf
  · show S0 X _ x11 117 [none, none, none, none, none, none, none, none, none, none] [] _
    exact s_vret rfl dX2_undoSwap_117
  · show S0 X _ s5.1 24 [some (.ref (gh (xG X) + a0)), some (.int x1), some (.int x2), some (.int x3), some (.int s5.2.1), some (.int s5.2.2.1), some (.int s5.2.2.2.1), some (.int s5.2.2.2.2), none, none] [] _
    refine s_iload (pc := 24) dX2_undoSwap_24 rfl ?_
    refine s_iflt (pc := 26) 117 dX2_undoSwap_26 rfl ?_ ?_
    · exact s_drop (hR10 s5.1 hs6) trivial
    · refine s_iload (pc := 29) dX2_undoSwap_29 rfl ?_
      refine s_bipush (pc := 31) 6 dX2_undoSwap_31 kb_6 ?_
      refine s_idiv (pc := 33) dX2_undoSwap_33 (by decide) ?_
      refine s_istore (pc := 34) dX2_undoSwap_34 (nlt rfl) rfl (L' := [some (.ref (gh (xG X) + a0)), some (.int x1), some (.int x2), some (.int x3), some (.int (s5.2.1 / 6)), some (.int s5.2.2.1), some (.int s5.2.2.2.1), some (.int s5.2.2.2.2), none, none]) rfl ?_
      refine s_bv (fun x13 : Int32 => [some (.ref (gh (xG X) + a0)), some (.int x1), some (.int x2), some (.int x3), some (.int x13), some (.int s5.2.2.1), some (.int s5.2.2.2.1), some (.int s5.2.2.2.2), none, none]) (fun x13 => ?_) rfl
      refine s_iload (pc := 36) dX2_undoSwap_36 rfl ?_
      refine s_bipush (pc := 38) 6 dX2_undoSwap_38 kb_6 ?_
      refine s_irem (pc := 40) dX2_undoSwap_40 (by decide) ?_
      refine s_istore (pc := 41) dX2_undoSwap_41 (nlt rfl) rfl (L' := [some (.ref (gh (xG X) + a0)), some (.int x1), some (.int x2), some (.int x3), some (.int x13), some (.int s5.2.2.1), some (.int s5.2.2.2.1), some (.int s5.2.2.2.2), some (.int (ir x13 6)), none]) rfl ?_
      refine s_bv (fun x14 : Int32 => [some (.ref (gh (xG X) + a0)), some (.int x1), some (.int x2), some (.int x3), some (.int x13), some (.int s5.2.2.1), some (.int s5.2.2.2.1), some (.int s5.2.2.2.2), some (.int x14), none]) (fun x14 => ?_) rfl
      refine s_iload_n (pc := 43) 1 dX2_undoSwap_43 rfl rfl ?_
      refine s_iload (pc := 44) dX2_undoSwap_44 rfl ?_
      refine s_iload (pc := 46) dX2_undoSwap_46 rfl ?_
      refine s_isub (pc := 48) dX2_undoSwap_48 ?_
      refine s_iload (pc := 49) dX2_undoSwap_49 rfl ?_
      refine s_imul (pc := 51) dX2_undoSwap_51 ?_
      refine s_iconst (pc := 52) 5 dX2_undoSwap_52 kc_5 ?_
      refine s_imul (pc := 53) dX2_undoSwap_53 ?_
      refine s_iadd (pc := 54) dX2_undoSwap_54 ?_
      refine s_istore (pc := 55) dX2_undoSwap_55 (nlt rfl) rfl (L' := [some (.ref (gh (xG X) + a0)), some (.int x1), some (.int x2), some (.int x3), some (.int x13), some (.int s5.2.2.1), some (.int s5.2.2.2.1), some (.int s5.2.2.2.2), some (.int x14), some (.int (x1 + (((s5.2.2.1 - x14) * s5.2.2.2.1) * 5)))]) rfl ?_
      refine s_bv (fun x15 : Int32 => [some (.ref (gh (xG X) + a0)), some (.int x1), some (.int x2), some (.int x3), some (.int x13), some (.int s5.2.2.1), some (.int s5.2.2.2.1), some (.int s5.2.2.2.2), some (.int x14), some (.int x15)]) (fun x15 => ?_) rfl
      refine s_aload_n (pc := 57) 0 dX2_undoSwap_57 rfl rfl ?_
      refine s_grd (fun o16 => ?_)
      refine s_geto (pc := 58) F_2 2 rfl o16 dX2_undoSwap_58 kf_X2_9 ?_
      refine s_rvB (fun r17 => ?_)
      refine s_iload (pc := 61) dX2_undoSwap_61 rfl ?_
      refine s_grd (fun o18 => ?_)
      refine s_grd (fun i19 => ?_)
      refine s_sald (pc := 63) o18 i19 dX2_undoSwap_63 ?_
      refine s_iconst (pc := 64) (-1) dX2_undoSwap_64 kc_m1 ?_
      refine s_join s5.1 (fun s21 : Mem => s21) 100 (fun s21 : Mem => [some (.ref (gh (xG X) + a0)), some (.int x1), some (.int x2), some (.int x3), some (.int x13), none, some (.int s5.2.2.2.1), some (.int s5.2.2.2.2), some (.int x14), none]) (fun s21 : Mem => []) (fun s21 hs22 => ?_) (fun j20 hj23 => ?_)
      · show S0 X _ s21 100 [some (.ref (gh (xG X) + a0)), some (.int x1), some (.int x2), some (.int x3), some (.int x13), none, some (.int s5.2.2.2.1), some (.int s5.2.2.2.2), some (.int x14), none] [] _
        have o24 := hs22.ok o16
        refine s_iload (pc := 100) dX2_undoSwap_100 rfl ?_
        refine s_bipush (pc := 102) 6 dX2_undoSwap_102 kb_6 ?_
        refine s_imul (pc := 104) dX2_undoSwap_104 ?_
        refine s_istore (pc := 105) dX2_undoSwap_105 (nlt rfl) rfl (L' := [some (.ref (gh (xG X) + a0)), some (.int x1), some (.int x2), some (.int x3), some (.int x13), none, some (.int (s5.2.2.2.1 * 6)), some (.int s5.2.2.2.2), some (.int x14), none]) rfl ?_
        refine s_bv (fun x25 : Int32 => [some (.ref (gh (xG X) + a0)), some (.int x1), some (.int x2), some (.int x3), some (.int x13), none, some (.int x25), some (.int s5.2.2.2.2), some (.int x14), none]) (fun x25 => ?_) rfl
        refine s_iload (pc := 107) dX2_undoSwap_107 rfl ?_
        refine s_istore (pc := 109) dX2_undoSwap_109 (nlt rfl) rfl (L' := [some (.ref (gh (xG X) + a0)), some (.int x1), some (.int x2), some (.int x3), some (.int x13), some (.int x14), some (.int x25), some (.int s5.2.2.2.2), some (.int x14), none]) rfl ?_
        refine s_iinc (pc := 111) dX2_undoSwap_111 rfl (v := s5.2.2.2.2 + (-1)) (congrArg (fun z : Int32 => s5.2.2.2.2 + z) kc_m1) (nlt rfl) rfl (L' := [some (.ref (gh (xG X) + a0)), some (.int x1), some (.int x2), some (.int x3), some (.int x13), some (.int x14), some (.int x25), some (.int (s5.2.2.2.2 + (-1))), some (.int x14), none]) rfl ?_
        refine s_bv (fun x26 : Int32 => [some (.ref (gh (xG X) + a0)), some (.int x1), some (.int x2), some (.int x3), some (.int x13), some (.int x14), some (.int x25), some (.int x26), some (.int x14), none]) (fun x26 => ?_) rfl
        refine s_goto (pc := 114) 24 dX2_undoSwap_114 rfl ?_
        exact s_drop (hT8 (s21, x13, x14, x25, x26) (hs6.tr hs22)) (And.intro rfl (And.intro rfl (And.intro rfl (And.intro rfl (And.intro rfl (And.intro rfl (And.intro rfl (And.intro rfl trivial))))))))
      · refine s_icne (pc := 65) 100 dX2_undoSwap_65 rfl ?_ ?_
        · exact s_drop (hj23 s5.1 Le.rf) (And.intro rfl (And.intro rfl (And.intro rfl (And.intro rfl (And.intro rfl (And.intro rfl (And.intro rfl (And.intro rfl trivial))))))))
        · refine s_aload_n (pc := 68) 0 dX2_undoSwap_68 rfl rfl ?_
          refine s_geto (pc := 69) F_2 1 rfl o16 dX2_undoSwap_69 kf_X2_22 ?_
          refine s_rvB (fun r27 => ?_)
          refine s_iconst (pc := 72) 2 dX2_undoSwap_72 kc_2 ?_
          refine s_iload (pc := 73) dX2_undoSwap_73 rfl ?_
          refine s_iload (pc := 75) dX2_undoSwap_75 rfl ?_
          refine s_iload_n (pc := 77) 2 dX2_undoSwap_77 rfl rfl ?_
          refine s_iload_n (pc := 78) 3 dX2_undoSwap_78 rfl rfl ?_
          refine s_iconst (pc := 79) 3 dX2_undoSwap_79 kc_3 ?_
          refine s_iload (pc := 80) dX2_undoSwap_80 rfl ?_
          refine s_imul (pc := 82) dX2_undoSwap_82 ?_
          refine s_ishr (pc := 83) dX2_undoSwap_83 ?_
          refine s_bipush (pc := 84) 7 dX2_undoSwap_84 kb_7 ?_
          refine s_iand (pc := 86) dX2_undoSwap_86 ?_
          refine s_grd (fun o28 => ?_)
          refine s_bind (fun q29 hq30 => ?_)
          have hC31 := t_X8_weightOf (l := xl X) (G := xG X) hq30
          refine s_callV (pc := 87) (As := [.int 2, .int s5.2.2.1, .int s5.2.2.2.2, .int x2, .int ((sr x3 (3 * s5.2.2.1)) &&& 7)]) (st := []) (nlt rfl) (q := (RX8, TX8, 7)) rfl rfl o28 cl_X8_weightOf wi_X8_weightOf wl_X8_weightOf km_X2_97 rfl rfl (nle rfl) (nle rfl) (nle rfl) dX2_undoSwap_87 hC31 ?_
          have h32 := hC31.1 X
          have o33 := h32.ok o16
          show S0 X _ q29.1 90 [some (.ref (gh (xG X) + a0)), some (.int x1), some (.int x2), some (.int x3), some (.int x13), some (.int s5.2.2.1), some (.int s5.2.2.2.1), some (.int s5.2.2.2.2), some (.int x14), some (.int x15)] [.int q29.2] _
          refine s_iconst (pc := 90) (-1) dX2_undoSwap_90 kc_m1 ?_
          refine s_iceq (pc := 91) 100 dX2_undoSwap_91 rfl ?_ ?_
          · exact s_drop (hj23 q29.1 h32) (And.intro rfl (And.intro rfl (And.intro rfl (And.intro rfl (And.intro rfl (And.intro rfl (And.intro rfl (And.intro rfl trivial))))))))
          · refine s_aload_n (pc := 94) 0 dX2_undoSwap_94 rfl rfl ?_
            refine s_iload (pc := 95) dX2_undoSwap_95 rfl ?_
            refine s_bind (fun q34 hq35 => ?_)
            have hC36 := t_X2_note (l := xl X) (G := xG X) hq35
            refine s_callV (pc := 97) (As := [.int x15]) (st := []) (nlt rfl) (q := (RX2, TX2, 11)) rfl rfl o33 cl_X2_note wi_X2_note wl_X2_note km_X2_62 rfl rfl (nle rfl) (nle rfl) (nle rfl) dX2_undoSwap_97 hC36 ?_
            have h37 := hC36.1 X
            have o38 := h37.ok o33
            show S0 X _ q34 100 [some (.ref (gh (xG X) + a0)), some (.int x1), some (.int x2), some (.int x3), some (.int x13), some (.int s5.2.2.1), some (.int s5.2.2.2.1), some (.int s5.2.2.2.2), some (.int x14), some (.int x15)] [] _
            exact s_drop (hj23 q34 (h32.tr h37)) (And.intro rfl (And.intro rfl (And.intro rfl (And.intro rfl (And.intro rfl (And.intro rfl (And.intro rfl (And.intro rfl trivial))))))))
noncomputable def f_X7_wordOf (M : Mem) (a0 : Nat) (x1 : Int32) (x2 : Int32) : Option Int32 :=
  Option.bind (loopO (σ := Int32 × Int32 × Int32 × Int32) (ρ := Unit ⊕ Int32) (fun s1 => if 129 < s1.2.2.2 then (some (.inr (.inl ()))) else (bv (fun (s14 : Int32 × Int32 × Int32) => bv (s1.2.2.2 + 1 : Int32) (fun x17 => some (.inl (s14.1, s14.2.1, s14.2.2, x17)))) (fun j13 => bv (fun (s19 : Unit) => bv (fun (s23 : Unit) => bv (s1.1 + 1 : Int32) (fun x26 => j13 (x26, 0, 1))) (fun j22 => if s1.2.2.1 = 0 then (j22 ()) else (if s1.2.1 = (x2 - x1) then (some (.inr (.inr s1.1))) else (j22 ())))) (fun j18 => if 129 ≤ s1.2.2.2 then (j18 ()) else (grd (vp_in s1.2.2.2 129) (if (txC s1.2.2.2) = 32 then (j18 ()) else (bv (fun (s29 : Int32) => bv (s1.2.1 + 1 : Int32) (fun x32 => j13 (s1.1, x32, s29))) (fun j28 => bv (fun (s34 : Unit) => j28 0) (fun j33 => if s1.2.2.1 = 0 then (j33 ()) else (if (x2 - x1) ≤ s1.2.1 then (j33 ()) else (grd (okO M 7 a0) (Option.bind (f_X7_byteAt M a0 (x1 + s1.2.1)) (fun q38 => if q38 = (txC s1.2.2.2) then (j28 1) else (j33 ())))))))))))))) (258, 0, 1, 0)) (Sum.elim (fun (x9 : Unit) => some 257) (fun (x11 : Int32) => some x11))
abbrev Y_X7_wordOf : Sta := (RX7, "wordOf", cX7_wordOf, 7, (some .int), 5)
set_option maxRecDepth 100000 in
set_option maxHeartbeats 8000000 in
theorem t_X7_wordOf {l : Launch} {G : Gh} {M : Mem} {a0 : Nat} {x1 : Int32} {x2 : Int32} {q : Int32} (h : f_X7_wordOf M a0 x1 x2 = some q) : Ctr l G yX7_wordOf Y_X7_wordOf M [.ref (gh G + a0), .int x1, .int x2] M (some (.int q)) := by
  refine Ctr.of (Y := Y_X7_wordOf) (L := [some (.ref (gh G + a0)), some (.int x1), some (.int x2), none, none, none, none]) (t := Option.bind (f_X7_wordOf M a0 x1 x2) (fun q => some (M, some (.int q)))) (by decide) rfl rfl (nle rfl) (Lof_in 4 _ rfl) (fun X hG hl => ?_) (by rw [h]; rfl)
  subst hG
  subst hl
  unfold f_X7_wordOf
  refine s_sipush (pc := 0) 258 dX7_wordOf_0 ks_258 ?_
  refine s_istore_n (pc := 3) 3 dX7_wordOf_3 rfl (nlt rfl) rfl (L' := [some (.ref (gh (xG X) + a0)), some (.int x1), some (.int x2), some (.int 258), none, none, none]) rfl ?_
  refine s_iconst (pc := 4) 0 dX7_wordOf_4 kc_0 ?_
  refine s_istore (pc := 5) dX7_wordOf_5 (nlt rfl) rfl (L' := [some (.ref (gh (xG X) + a0)), some (.int x1), some (.int x2), some (.int 258), some (.int 0), none, none]) rfl ?_
  refine s_iconst (pc := 7) 1 dX7_wordOf_7 kc_1 ?_
  refine s_istore (pc := 8) dX7_wordOf_8 (nlt rfl) rfl (L' := [some (.ref (gh (xG X) + a0)), some (.int x1), some (.int x2), some (.int 258), some (.int 0), some (.int 1), none]) rfl ?_
  refine s_iconst (pc := 10) 0 dX7_wordOf_10 kc_0 ?_
  refine s_istore (pc := 11) dX7_wordOf_11 (nlt rfl) rfl (L' := [some (.ref (gh (xG X) + a0)), some (.int x1), some (.int x2), some (.int 258), some (.int 0), some (.int 1), some (.int 0)]) rfl ?_
  refine s_drop (L' := [some (.ref (gh (xG X) + a0)), some (.int x1), some (.int x2), some (.int 258), some (.int 0), some (.int 1), some (.int 0)]) ?_ (And.intro rfl (And.intro rfl (And.intro rfl (And.intro rfl (And.intro rfl (And.intro rfl (And.intro rfl trivial)))))))
  refine s_loop2 M (fun s1 : Int32 × Int32 × Int32 × Int32 => M) (fun s1 : Int32 × Int32 × Int32 × Int32 => [some (.ref (gh (xG X) + a0)), some (.int x1), some (.int x2), some (.int s1.1), some (.int s1.2.1), some (.int s1.2.2.1), some (.int s1.2.2.2)]) (fun x9 : Unit => M) 119 (fun x9 : Unit => [none, none, none, none, none, none, none]) (fun x11 : Int32 => M) 102 (fun x11 : Int32 => [none, none, none, some (.int x11), none, none, none]) (fun x9 hx10 => ?_) (fun x11 hx12 => ?_) (fun T3 R5 R7 hT4 hR6 hR8 s1 hs2 => ?_) (258, 0, 1, 0) Le.rf
  · show S0 X _ M 119 [none, none, none, none, none, none, none] [] _
    refine s_sipush (pc := 119) 257 dX7_wordOf_119 ks_257 ?_
    exact s_iret rfl dX7_wordOf_122
  · show S0 X _ M 102 [none, none, none, some (.int x11), none, none, none] [] _
    refine s_iload_n (pc := 102) 3 dX7_wordOf_102 rfl rfl ?_
    exact s_iret rfl dX7_wordOf_103
  · show S0 X _ M 13 [some (.ref (gh (xG X) + a0)), some (.int x1), some (.int x2), some (.int s1.1), some (.int s1.2.1), some (.int s1.2.2.1), some (.int s1.2.2.2)] [] _
    refine s_iload (pc := 13) dX7_wordOf_13 rfl ?_
    refine s_ldcS (pc := 15) dX7_wordOf_15 rfl ?_
    refine s_strlen (pc := 17) km_X7_100 (nle rfl) (nle rfl) dX7_wordOf_17 ?_
    refine s_icgt (pc := 20) 119 dX7_wordOf_20 rfl ?_ ?_
    · exact s_drop (hR6 () Le.rf) trivial
    · refine s_iload (pc := 23) dX7_wordOf_23 rfl ?_
      refine s_ldcS (pc := 25) dX7_wordOf_25 rfl ?_
      refine s_strlen (pc := 27) km_X7_100 (nle rfl) (nle rfl) dX7_wordOf_27 ?_
      refine s_join M (fun s14 : Int32 × Int32 × Int32 => M) 113 (fun s14 : Int32 × Int32 × Int32 => [some (.ref (gh (xG X) + a0)), some (.int x1), some (.int x2), some (.int s14.1), some (.int s14.2.1), some (.int s14.2.2), some (.int s1.2.2.2)]) (fun s14 : Int32 × Int32 × Int32 => []) (fun s14 hs15 => ?_) (fun j13 hj16 => ?_)
      · show S0 X _ M 113 [some (.ref (gh (xG X) + a0)), some (.int x1), some (.int x2), some (.int s14.1), some (.int s14.2.1), some (.int s14.2.2), some (.int s1.2.2.2)] [] _
        refine s_iinc (pc := 113) dX7_wordOf_113 rfl (v := s1.2.2.2 + 1) (congrArg (fun z : Int32 => s1.2.2.2 + z) kc_1) (nlt rfl) rfl (L' := [some (.ref (gh (xG X) + a0)), some (.int x1), some (.int x2), some (.int s14.1), some (.int s14.2.1), some (.int s14.2.2), some (.int (s1.2.2.2 + 1))]) rfl ?_
        refine s_bv (fun x17 : Int32 => [some (.ref (gh (xG X) + a0)), some (.int x1), some (.int x2), some (.int s14.1), some (.int s14.2.1), some (.int s14.2.2), some (.int x17)]) (fun x17 => ?_) rfl
        refine s_goto (pc := 116) 13 dX7_wordOf_116 rfl ?_
        exact s_drop (hT4 (s14.1, s14.2.1, s14.2.2, x17) Le.rf) (And.intro rfl (And.intro rfl (And.intro rfl (And.intro rfl (And.intro rfl (And.intro rfl (And.intro rfl trivial)))))))
      · refine s_join M (fun s19 : Unit => M) 89 (fun s19 : Unit => [some (.ref (gh (xG X) + a0)), some (.int x1), some (.int x2), some (.int s1.1), some (.int s1.2.1), some (.int s1.2.2.1), some (.int s1.2.2.2)]) (fun s19 : Unit => []) (fun s19 hs20 => ?_) (fun j18 hj21 => ?_)
        · show S0 X _ M 89 [some (.ref (gh (xG X) + a0)), some (.int x1), some (.int x2), some (.int s1.1), some (.int s1.2.1), some (.int s1.2.2.1), some (.int s1.2.2.2)] [] _
          refine s_iload (pc := 89) dX7_wordOf_89 rfl ?_
          refine s_join M (fun s23 : Unit => M) 104 (fun s23 : Unit => [some (.ref (gh (xG X) + a0)), some (.int x1), some (.int x2), some (.int s1.1), none, none, some (.int s1.2.2.2)]) (fun s23 : Unit => []) (fun s23 hs24 => ?_) (fun j22 hj25 => ?_)
          · show S0 X _ M 104 [some (.ref (gh (xG X) + a0)), some (.int x1), some (.int x2), some (.int s1.1), none, none, some (.int s1.2.2.2)] [] _
            refine s_iinc (pc := 104) dX7_wordOf_104 rfl (v := s1.1 + 1) (congrArg (fun z : Int32 => s1.1 + z) kc_1) (nlt rfl) rfl (L' := [some (.ref (gh (xG X) + a0)), some (.int x1), some (.int x2), some (.int (s1.1 + 1)), none, none, some (.int s1.2.2.2)]) rfl ?_
            refine s_bv (fun x26 : Int32 => [some (.ref (gh (xG X) + a0)), some (.int x1), some (.int x2), some (.int x26), none, none, some (.int s1.2.2.2)]) (fun x26 => ?_) rfl
            refine s_iconst (pc := 107) 0 dX7_wordOf_107 kc_0 ?_
            refine s_istore (pc := 108) dX7_wordOf_108 (nlt rfl) rfl (L' := [some (.ref (gh (xG X) + a0)), some (.int x1), some (.int x2), some (.int x26), some (.int 0), none, some (.int s1.2.2.2)]) rfl ?_
            refine s_iconst (pc := 110) 1 dX7_wordOf_110 kc_1 ?_
            refine s_istore (pc := 111) dX7_wordOf_111 (nlt rfl) rfl (L' := [some (.ref (gh (xG X) + a0)), some (.int x1), some (.int x2), some (.int x26), some (.int 0), some (.int 1), some (.int s1.2.2.2)]) rfl ?_
            exact s_drop (hj16 (x26, 0, 1) Le.rf) (And.intro rfl (And.intro rfl (And.intro rfl (And.intro rfl (And.intro rfl (And.intro rfl (And.intro rfl trivial)))))))
          · refine s_ifeq (pc := 91) 104 dX7_wordOf_91 rfl ?_ ?_
            · exact s_drop (hj25 () Le.rf) (And.intro rfl (And.intro rfl (And.intro rfl (And.intro rfl (And.intro rfl trivial)))))
            · refine s_iload (pc := 94) dX7_wordOf_94 rfl ?_
              refine s_iload_n (pc := 96) 2 dX7_wordOf_96 rfl rfl ?_
              refine s_iload_n (pc := 97) 1 dX7_wordOf_97 rfl rfl ?_
              refine s_isub (pc := 98) dX7_wordOf_98 ?_
              refine s_icne (pc := 99) 104 dX7_wordOf_99 rfl ?_ ?_
              · exact s_drop (hj25 () Le.rf) (And.intro rfl (And.intro rfl (And.intro rfl (And.intro rfl (And.intro rfl trivial)))))
              · exact s_drop (hR8 s1.1 Le.rf) (And.intro rfl trivial)
        · refine s_icge (pc := 30) 89 dX7_wordOf_30 rfl ?_ ?_
          · exact s_drop (hj21 () Le.rf) (And.intro rfl (And.intro rfl (And.intro rfl (And.intro rfl (And.intro rfl (And.intro rfl (And.intro rfl trivial)))))))
          · refine s_ldcS (pc := 33) dX7_wordOf_33 rfl ?_
            refine s_iload (pc := 35) dX7_wordOf_35 rfl ?_
            refine s_grd (fun i27 => ?_)
            refine s_charAt (pc := 37) i27 km_X7_106 (nle rfl) (nle rfl) dX7_wordOf_37 ?_
            refine s_bipush (pc := 40) 32 dX7_wordOf_40 kb_32 ?_
            refine s_iceq (pc := 42) 89 dX7_wordOf_42 rfl ?_ ?_
            · exact s_drop (hj21 () Le.rf) (And.intro rfl (And.intro rfl (And.intro rfl (And.intro rfl (And.intro rfl (And.intro rfl (And.intro rfl trivial)))))))
            · refine s_iload (pc := 45) dX7_wordOf_45 rfl ?_
              refine s_join M (fun s29 : Int32 => M) 81 (fun s29 : Int32 => [some (.ref (gh (xG X) + a0)), some (.int x1), some (.int x2), some (.int s1.1), some (.int s1.2.1), none, some (.int s1.2.2.2)]) (fun s29 : Int32 => [.int s29]) (fun s29 hs30 => ?_) (fun j28 hj31 => ?_)
              · show S0 X _ M 81 [some (.ref (gh (xG X) + a0)), some (.int x1), some (.int x2), some (.int s1.1), some (.int s1.2.1), none, some (.int s1.2.2.2)] [.int s29] _
                refine s_istore (pc := 81) dX7_wordOf_81 (nlt rfl) rfl (L' := [some (.ref (gh (xG X) + a0)), some (.int x1), some (.int x2), some (.int s1.1), some (.int s1.2.1), some (.int s29), some (.int s1.2.2.2)]) rfl ?_
                refine s_iinc (pc := 83) dX7_wordOf_83 rfl (v := s1.2.1 + 1) (congrArg (fun z : Int32 => s1.2.1 + z) kc_1) (nlt rfl) rfl (L' := [some (.ref (gh (xG X) + a0)), some (.int x1), some (.int x2), some (.int s1.1), some (.int (s1.2.1 + 1)), some (.int s29), some (.int s1.2.2.2)]) rfl ?_
                refine s_bv (fun x32 : Int32 => [some (.ref (gh (xG X) + a0)), some (.int x1), some (.int x2), some (.int s1.1), some (.int x32), some (.int s29), some (.int s1.2.2.2)]) (fun x32 => ?_) rfl
                refine s_goto (pc := 86) 113 dX7_wordOf_86 rfl ?_
                exact s_drop (hj16 (s1.1, x32, s29) Le.rf) (And.intro rfl (And.intro rfl (And.intro rfl (And.intro rfl (And.intro rfl (And.intro rfl (And.intro rfl trivial)))))))
              · refine s_join M (fun s34 : Unit => M) 80 (fun s34 : Unit => [some (.ref (gh (xG X) + a0)), some (.int x1), some (.int x2), some (.int s1.1), some (.int s1.2.1), none, some (.int s1.2.2.2)]) (fun s34 : Unit => []) (fun s34 hs35 => ?_) (fun j33 hj36 => ?_)
                · show S0 X _ M 80 [some (.ref (gh (xG X) + a0)), some (.int x1), some (.int x2), some (.int s1.1), some (.int s1.2.1), none, some (.int s1.2.2.2)] [] _
                  refine s_iconst (pc := 80) 0 dX7_wordOf_80 kc_0 ?_
                  exact s_drop (hj31 0 Le.rf) (And.intro rfl (And.intro rfl (And.intro rfl (And.intro rfl (And.intro rfl (And.intro rfl trivial))))))
                · refine s_ifeq (pc := 47) 80 dX7_wordOf_47 rfl ?_ ?_
                  · exact s_drop (hj36 () Le.rf) (And.intro rfl (And.intro rfl (And.intro rfl (And.intro rfl (And.intro rfl (And.intro rfl trivial))))))
                  · refine s_iload (pc := 50) dX7_wordOf_50 rfl ?_
                    refine s_iload_n (pc := 52) 2 dX7_wordOf_52 rfl rfl ?_
                    refine s_iload_n (pc := 53) 1 dX7_wordOf_53 rfl rfl ?_
                    refine s_isub (pc := 54) dX7_wordOf_54 ?_
                    refine s_icge (pc := 55) 80 dX7_wordOf_55 rfl ?_ ?_
                    · exact s_drop (hj36 () Le.rf) (And.intro rfl (And.intro rfl (And.intro rfl (And.intro rfl (And.intro rfl (And.intro rfl trivial))))))
                    · refine s_aload_n (pc := 58) 0 dX7_wordOf_58 rfl rfl ?_
                      refine s_iload_n (pc := 59) 1 dX7_wordOf_59 rfl rfl ?_
                      refine s_iload (pc := 60) dX7_wordOf_60 rfl ?_
                      refine s_iadd (pc := 62) dX7_wordOf_62 ?_
                      refine s_grd (fun o37 => ?_)
                      refine s_bind (fun q38 hq39 => ?_)
                      have hC40 := t_X7_byteAt (l := xl X) (G := xG X) hq39
                      refine s_callV (pc := 63) (As := [.int (x1 + s1.2.1)]) (st := []) (nlt rfl) (q := (RX7, TX7, 10)) rfl rfl o37 cl_X7_byteAt wi_X7_byteAt wl_X7_byteAt km_X7_41 rfl rfl (nle rfl) (nle rfl) (nle rfl) dX7_wordOf_63 hC40 ?_
                      show S0 X _ M 66 [some (.ref (gh (xG X) + a0)), some (.int x1), some (.int x2), some (.int s1.1), some (.int s1.2.1), some (.int s1.2.2.1), some (.int s1.2.2.2)] [.int q38] _
                      refine s_ldcS (pc := 66) dX7_wordOf_66 rfl ?_
                      refine s_iload (pc := 68) dX7_wordOf_68 rfl ?_
                      refine s_charAt (pc := 70) i27 km_X7_106 (nle rfl) (nle rfl) dX7_wordOf_70 ?_
                      refine s_icne (pc := 73) 80 dX7_wordOf_73 rfl ?_ ?_
                      · exact s_drop (hj36 () Le.rf) (And.intro rfl (And.intro rfl (And.intro rfl (And.intro rfl (And.intro rfl (And.intro rfl trivial))))))
                      · refine s_iconst (pc := 76) 1 dX7_wordOf_76 kc_1 ?_
                        refine s_goto (pc := 77) 81 dX7_wordOf_77 rfl ?_
                        exact s_drop (hj31 1 Le.rf) (And.intro rfl (And.intro rfl (And.intro rfl (And.intro rfl (And.intro rfl (And.intro rfl trivial))))))
