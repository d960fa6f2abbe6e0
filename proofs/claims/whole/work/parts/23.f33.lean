set_option maxRecDepth 100000 in
set_option maxHeartbeats 8000000 in
noncomputable def f_X12_line (M : Mem) (a0 : Nat) (p1 : Int32) (p2 : Int32) (p3 : Int32) : Option (Mem × Int32) :=
  Option.bind (f_X12_lies p1 0 1000000) (fun q1 => bv (fun (s5 : Unit) => grd (okO M 12 a0) (Option.bind (f_X12_refuses M a0 (-1)) (fun q9 => some (q9.1, q9.2)))) (fun j4 => if q1 = 0 then (j4 ()) else (Option.bind (f_X12_lies p3 1 60) (fun q14 => if q14 = 0 then (j4 ()) else (grd (okO M 12 a0) (Option.bind (f_X12_isHouse M a0 p2) (fun q18 => if q18 = 0 then (Option.bind (f_X12_refuses M a0 (-2)) (fun q135 => some (q135.1, q135.2))) else (bv (wI M a0 58 p1) (fun M21 => bv (wI M21 a0 57 p3) (fun M25 => Option.bind (mR M25 a0 56) (fun r29 => Option.bind (f_X12_fact M25 a0 p2 2) (fun q30 => grd (okO M25 14 r29) (grd (vp_in 0 (mL M25 r29)) (bv (wI M25 r29 (0 : Int32).toNatClampNeg q30) (fun M35 => Option.bind (loopO (σ := Mem × Int32) (ρ := Mem) (fun s39 => if p3 ≤ s39.2 then (some (.inr s39.1)) else (Option.bind (mR s39.1 a0 3) (fun r48 => grd (okO s39.1 14 r48) (grd (vp_in 54 (mL s39.1 r48)) (bv (fun (s52 : Int32) => Option.bind (mR s39.1 a0 56) (fun r55 => grd (okO s39.1 14 r55) (grd (vp_in s39.2 (mL s39.1 r55)) (Option.bind (f_X12_lists s39.1 a0 (mI s39.1 r55 s39.2.toNatClampNeg) s52 1) (fun q58 => Option.bind (loopO (σ := Int32 × Int32) (ρ := Int32) (fun s63 => if (mI q58 a0 11) ≤ s63.2 then (some (.inr s63.1)) else (Option.bind (mR q58 a0 10) (fun r71 => grd (okO q58 14 r71) (grd (vp_in s63.2 (mL q58 r71)) (bv (s63.1 + (mI q58 r71 s63.2.toNatClampNeg) : Int32) (fun x74 => bv (s63.2 + 1 : Int32) (fun x75 => some (.inl (x74, x75))))))))) (0, 0)) (fun (x69 : Int32) => Option.bind (mR q58 a0 56) (fun r76 => Option.bind (mR q58 a0 56) (fun r77 => grd (okO q58 14 r77) (grd (vp_in s39.2 (mL q58 r77)) (grd (okO q58 14 r76) (grd (vp_in (s39.2 + 1) (mL q58 r76)) (bv (wI q58 r76 (s39.2 + 1).toNatClampNeg (mI q58 r77 s39.2.toNatClampNeg)) (fun M82 => bv (fun (s87 : Mem) => bv (s39.2 + 1 : Int32) (fun x91 => some (.inl (s87, x91)))) (fun j86 => if x69 = 0 then (j86 M82) else (Option.bind (f_X12_draws M82 a0 x69) (fun q92 => Option.bind (loopO (σ := Int32 × Int32) (ρ := Int32) (fun s97 => Option.bind (mR q92.1 a0 10) (fun r105 => grd (okO q92.1 14 r105) (grd (vp_in s97.2 (mL q92.1 r105)) (if s97.1 < (mI q92.1 r105 s97.2.toNatClampNeg) then (some (.inr s97.2)) else (Option.bind (mR q92.1 a0 10) (fun r108 => grd (okO q92.1 14 r108) (grd (vp_in s97.2 (mL q92.1 r108)) (bv (s97.1 - (mI q92.1 r108 s97.2.toNatClampNeg) : Int32) (fun x111 => bv (s97.2 + 1 : Int32) (fun x112 => some (.inl (x111, x112)))))))))))) (q92.2, 0)) (fun (x103 : Int32) => Option.bind (mR q92.1 a0 56) (fun r113 => Option.bind (mR q92.1 a0 9) (fun r114 => grd (okO q92.1 14 r114) (grd (vp_in x103 (mL q92.1 r114)) (grd (okO q92.1 14 r113) (grd (vp_in (s39.2 + 1) (mL q92.1 r113)) (bv (wI q92.1 r113 (s39.2 + 1).toNatClampNeg (mI q92.1 r114 x103.toNatClampNeg)) (fun M119 => j86 M119)))))))))))))))))))))))) (fun j51 => if ((mI s39.1 r48 (54 : Int32).toNatClampNeg) + s39.2) ≤ 999 then (Option.bind (mR s39.1 a0 3) (fun r123 => grd (okO s39.1 14 r123) (grd (vp_in 54 (mL s39.1 r123)) (j51 ((mI s39.1 r123 (54 : Int32).toNatClampNeg) + s39.2))))) else (j51 999))))))) (M35, 0)) (fun (x46 : Mem) => Option.bind (mR x46 a0 56) (fun r127 => grd (okO x46 14 r127) (grd (vp_in p3 (mL x46 r127)) (Option.bind (f_X12_good x46 a0 (mI x46 r127 p3.toNatClampNeg)) (fun q130 => some (q130.1, q130.2)))))))))))))))))))))
abbrev Y_X12_line : Sta := (RX12, "line", cX12_line, 9, (some .int), 208)
set_option maxRecDepth 100000 in
set_option maxHeartbeats 8000000 in
theorem t_X12_line {l : Launch} {G : Gh} {M : Mem} {a0 : Nat} {p1 : Int32} {p2 : Int32} {p3 : Int32} {q : Mem × Int32} (h : f_X12_line M a0 p1 p2 p3 = some q) : Ctr l G yX12_line Y_X12_line M [.ref (gh G + a0), .int p1, .int p2, .int p3] q.1 (some (.int q.2)) := by
  refine Ctr.of (Y := Y_X12_line) (L := [some (.ref (gh G + a0)), some (.int p1), some (.int p2), some (.int p3), none, none, none, none, none]) (t := Option.bind (f_X12_line M a0 p1 p2 p3) (fun q => some (q.1, some (.int q.2)))) (by decide) rfl rfl (nle rfl) (Lof_in 5 _ rfl) (fun X hG hl => ?_) (by rw [h]; rfl)
  subst hG
  subst hl
  unfold f_X12_line
  refine s_iload_n (pc := 0) 1 dX12_line_0 rfl rfl ?_
  refine s_iconst (pc := 1) 0 dX12_line_1 kc_0 ?_
  refine s_ldc (pc := 2) dX12_line_2 ki_X12_229 ?_
  refine s_bind (fun q1 hq2 => ?_)
  have hC3 := t_X12_lies (l := xl X) (G := xG X) (M := M) hq2
  refine s_callS (pc := 4) (As := [.int p1, .int 0, .int 1000000]) (st := []) cl_X12_lies wt_X12_lies km_X12_123 rfl rfl (nle rfl) (nle rfl) (nle rfl) dX12_line_4 hC3 ?_
  show S0 X _ M 7 [some (.ref (gh (xG X) + a0)), some (.int p1), some (.int p2), some (.int p3), none, none, none, none, none] [.int q1] _
  refine s_join M (fun s5 : Unit => M) 20 (fun s5 : Unit => [some (.ref (gh (xG X) + a0)), none, none, none, none, none, none, none, none]) (fun s5 : Unit => []) (fun s5 hs6 => ?_) (fun j4 hj7 => ?_)
  · show S0 X _ M 20 [some (.ref (gh (xG X) + a0)), none, none, none, none, none, none, none, none] [] _
    refine s_aload_n (pc := 20) 0 dX12_line_20 rfl rfl ?_
    refine s_iconst (pc := 21) (-1) dX12_line_21 kc_m1 ?_
    refine s_grd (fun o8 => ?_)
    refine s_bind (fun q9 hq10 => ?_)
    have hC11 := t_X12_refuses (l := xl X) (G := xG X) hq10
    refine s_callV (pc := 22) (As := [.int (-1)]) (st := []) (nlt rfl) (q := (RX12, TX12, 59)) rfl rfl o8 cl_X12_refuses wi_X12_refuses wl_X12_refuses km_X12_127 rfl rfl (nle rfl) (nle rfl) (nle rfl) dX12_line_22 hC11 ?_
    have h12 := hC11.1 X
    have o13 := h12.ok o8
    show S0 X _ q9.1 25 [some (.ref (gh (xG X) + a0)), none, none, none, none, none, none, none, none] [.int q9.2] _
    exact s_iret rfl dX12_line_25
  · refine s_ifeq (pc := 7) 20 dX12_line_7 rfl ?_ ?_
    · exact s_drop (hj7 () Le.rf) (And.intro rfl trivial)
    · refine s_iload_n (pc := 10) 3 dX12_line_10 rfl rfl ?_
      refine s_iconst (pc := 11) 1 dX12_line_11 kc_1 ?_
      refine s_bipush (pc := 12) 60 dX12_line_12 kb_60 ?_
      refine s_bind (fun q14 hq15 => ?_)
      have hC16 := t_X12_lies (l := xl X) (G := xG X) (M := M) hq15
      refine s_callS (pc := 14) (As := [.int p3, .int 1, .int 60]) (st := []) cl_X12_lies wt_X12_lies km_X12_123 rfl rfl (nle rfl) (nle rfl) (nle rfl) dX12_line_14 hC16 ?_
      show S0 X _ M 17 [some (.ref (gh (xG X) + a0)), some (.int p1), some (.int p2), some (.int p3), none, none, none, none, none] [.int q14] _
      refine s_ifne (pc := 17) 26 dX12_line_17 rfl ?_ ?_
      · refine s_aload_n (pc := 26) 0 dX12_line_26 rfl rfl ?_
        refine s_iload_n (pc := 27) 2 dX12_line_27 rfl rfl ?_
        refine s_grd (fun o17 => ?_)
        refine s_bind (fun q18 hq19 => ?_)
        have hC20 := t_X12_isHouse (l := xl X) (G := xG X) hq19
        refine s_callV (pc := 28) (As := [.int p2]) (st := []) (nlt rfl) (q := (RX12, TX12, 59)) rfl rfl o17 cl_X12_isHouse wi_X12_isHouse wl_X12_isHouse km_X12_191 rfl rfl (nle rfl) (nle rfl) (nle rfl) dX12_line_28 hC20 ?_
        show S0 X _ M 31 [some (.ref (gh (xG X) + a0)), some (.int p1), some (.int p2), some (.int p3), none, none, none, none, none] [.int q18] _
        refine s_ifne (pc := 31) 41 dX12_line_31 rfl ?_ ?_
        · refine s_aload_n (pc := 41) 0 dX12_line_41 rfl rfl ?_
          refine s_iload_n (pc := 42) 1 dX12_line_42 rfl rfl ?_
          refine s_puti (pc := 43) F_12 58 rfl o17 rfl rfl rfl dX12_line_43 kf_X12_464 (fun M21 hM22 => ?_)
          have h23 := le_wI hM22
          have o24 := h23.ok o17
          refine s_aload_n (pc := 46) 0 dX12_line_46 rfl rfl ?_
          refine s_iload_n (pc := 47) 3 dX12_line_47 rfl rfl ?_
          refine s_puti (pc := 48) F_12 57 rfl o24 rfl rfl rfl dX12_line_48 kf_X12_120 (fun M25 hM26 => ?_)
          have h27 := le_wI hM26
          have o28 := h27.ok o24
          refine s_aload_n (pc := 51) 0 dX12_line_51 rfl rfl ?_
          refine s_geto (pc := 52) F_12 56 rfl o28 dX12_line_52 kf_X12_117 ?_
          refine s_rvB (fun r29 => ?_)
          refine s_iconst (pc := 55) 0 dX12_line_55 kc_0 ?_
          refine s_aload_n (pc := 56) 0 dX12_line_56 rfl rfl ?_
          refine s_iload_n (pc := 57) 2 dX12_line_57 rfl rfl ?_
          refine s_iconst (pc := 58) 2 dX12_line_58 kc_2 ?_
          refine s_bind (fun q30 hq31 => ?_)
          have hC32 := t_X12_fact (l := xl X) (G := xG X) hq31
          refine s_callV (pc := 59) (As := [.int p2, .int 2]) (st := [.int 0, .ref (gh (xG X) + r29)]) (nlt rfl) (q := (RX12, TX12, 59)) rfl rfl o28 cl_X12_fact wi_X12_fact wl_X12_fact km_X12_194 rfl rfl (nle rfl) (nle rfl) (nle rfl) dX12_line_59 hC32 ?_
          show S0 X _ M25 62 [some (.ref (gh (xG X) + a0)), some (.int p1), some (.int p2), some (.int p3), none, none, none, none, none] [.int q30, .int 0, .ref (gh (xG X) + r29)] _
          refine s_grd (fun o33 => ?_)
          refine s_grd (fun i34 => ?_)
          refine s_iast (pc := 62) o33 i34 dX12_line_62 (fun M35 hM36 => ?_)
          have h37 := le_wI hM36
          have o38 := h37.ok o28
          refine s_iconst (pc := 63) 0 dX12_line_63 kc_0 ?_
          refine s_istore (pc := 64) dX12_line_64 (nlt rfl) rfl (L' := [some (.ref (gh (xG X) + a0)), some (.int p1), some (.int p2), some (.int p3), some (.int 0), none, none, none, none]) rfl ?_
          refine s_drop (L' := [some (.ref (gh (xG X) + a0)), none, none, some (.int p3), some (.int 0), none, none, none, none]) ?_ (And.intro rfl (And.intro rfl (And.intro rfl trivial)))
          refine s_loop1 M35 (fun s39 : Mem × Int32 => s39.1) (fun s39 : Mem × Int32 => [some (.ref (gh (xG X) + a0)), none, none, some (.int p3), some (.int s39.2), none, none, none, none]) (fun x46 : Mem => x46) 240 (fun x46 : Mem => [some (.ref (gh (xG X) + a0)), none, none, some (.int p3), none, none, none, none, none]) (fun x46 hx47 => ?_) (fun T41 R43 hT42 hR44 s39 hs40 => ?_) (M35, 0) Le.rf
          · show S0 X _ x46 240 [some (.ref (gh (xG X) + a0)), none, none, some (.int p3), none, none, none, none, none] [] _
            have o126 := hx47.ok o38
            refine s_aload_n (pc := 240) 0 dX12_line_240 rfl rfl ?_
            refine s_aload_n (pc := 241) 0 dX12_line_241 rfl rfl ?_
            refine s_geto (pc := 242) F_12 56 rfl o126 dX12_line_242 kf_X12_117 ?_
            refine s_rvB (fun r127 => ?_)
            refine s_iload_n (pc := 245) 3 dX12_line_245 rfl rfl ?_
            refine s_grd (fun o128 => ?_)
            refine s_grd (fun i129 => ?_)
            refine s_iald (pc := 246) o128 i129 dX12_line_246 ?_
            refine s_bind (fun q130 hq131 => ?_)
            have hC132 := t_X12_good (l := xl X) (G := xG X) hq131
            refine s_callV (pc := 247) (As := [.int (mI x46 r127 p3.toNatClampNeg)]) (st := []) (nlt rfl) (q := (RX12, TX12, 59)) rfl rfl o126 cl_X12_good wi_X12_good wl_X12_good km_X12_131 rfl rfl (nle rfl) (nle rfl) (nle rfl) dX12_line_247 hC132 ?_
            have h133 := hC132.1 X
            have o134 := h133.ok o126
            show S0 X _ q130.1 250 [some (.ref (gh (xG X) + a0)), none, none, some (.int p3), none, none, none, none, none] [.int q130.2] _
            exact s_iret rfl dX12_line_250
          · show S0 X _ s39.1 66 [some (.ref (gh (xG X) + a0)), none, none, some (.int p3), some (.int s39.2), none, none, none, none] [] _
            have o45 := hs40.ok o38
            refine s_iload (pc := 66) dX12_line_66 rfl ?_
            refine s_iload_n (pc := 68) 3 dX12_line_68 rfl rfl ?_
            refine s_icge (pc := 69) 240 dX12_line_69 rfl ?_ ?_
            · exact s_drop (hR44 s39.1 hs40) (And.intro rfl (And.intro rfl trivial))
            · refine s_aload_n (pc := 72) 0 dX12_line_72 rfl rfl ?_
              refine s_geto (pc := 73) F_12 3 rfl o45 dX12_line_73 kf_X12_20 ?_
              refine s_rvB (fun r48 => ?_)
              refine s_bipush (pc := 76) 54 dX12_line_76 kb_54 ?_
              refine s_grd (fun o49 => ?_)
              refine s_grd (fun i50 => ?_)
              refine s_iald (pc := 78) o49 i50 dX12_line_78 ?_
              refine s_iload (pc := 79) dX12_line_79 rfl ?_
              refine s_iadd (pc := 81) dX12_line_81 ?_
              refine s_sipush (pc := 82) 999 dX12_line_82 ks_999 ?_
              refine s_join s39.1 (fun s52 : Int32 => s39.1) 104 (fun s52 : Int32 => [some (.ref (gh (xG X) + a0)), none, none, some (.int p3), some (.int s39.2), none, none, none, none]) (fun s52 : Int32 => [.int s52]) (fun s52 hs53 => ?_) (fun j51 hj54 => ?_)
              · show S0 X _ s39.1 104 [some (.ref (gh (xG X) + a0)), none, none, some (.int p3), some (.int s39.2), none, none, none, none] [.int s52] _
                refine s_istore (pc := 104) dX12_line_104 (nlt rfl) rfl (L' := [some (.ref (gh (xG X) + a0)), none, none, some (.int p3), some (.int s39.2), some (.int s52), none, none, none]) rfl ?_
                refine s_aload_n (pc := 106) 0 dX12_line_106 rfl rfl ?_
                refine s_aload_n (pc := 107) 0 dX12_line_107 rfl rfl ?_
                refine s_geto (pc := 108) F_12 56 rfl o45 dX12_line_108 kf_X12_117 ?_
                refine s_rvB (fun r55 => ?_)
                refine s_iload (pc := 111) dX12_line_111 rfl ?_
                refine s_grd (fun o56 => ?_)
                refine s_grd (fun i57 => ?_)
                refine s_iald (pc := 113) o56 i57 dX12_line_113 ?_
                refine s_iload (pc := 114) dX12_line_114 rfl ?_
                refine s_iconst (pc := 116) 1 dX12_line_116 kc_1 ?_
                refine s_bind (fun q58 hq59 => ?_)
                have hC60 := t_X12_lists (l := xl X) (G := xG X) hq59
                refine s_callV (pc := 117) (As := [.int (mI s39.1 r55 s39.2.toNatClampNeg), .int s52, .int 1]) (st := []) (nlt rfl) (q := (RX12, TX12, 59)) rfl rfl o45 cl_X12_lists wi_X12_lists wl_X12_lists km_X12_187 rfl rfl (nle rfl) (nle rfl) (nle rfl) dX12_line_117 hC60 ?_
                have h61 := hC60.1 X
                have o62 := h61.ok o45
                show S0 X _ q58 120 [some (.ref (gh (xG X) + a0)), none, none, some (.int p3), some (.int s39.2), some (.int s52), none, none, none] [] _
                refine s_iconst (pc := 120) 0 dX12_line_120 kc_0 ?_
                refine s_istore (pc := 121) dX12_line_121 (nlt rfl) rfl (L' := [some (.ref (gh (xG X) + a0)), none, none, some (.int p3), some (.int s39.2), some (.int s52), some (.int 0), none, none]) rfl ?_
                refine s_iconst (pc := 123) 0 dX12_line_123 kc_0 ?_
                refine s_istore (pc := 124) dX12_line_124 (nlt rfl) rfl (L' := [some (.ref (gh (xG X) + a0)), none, none, some (.int p3), some (.int s39.2), some (.int s52), some (.int 0), some (.int 0), none]) rfl ?_
                refine s_drop (L' := [some (.ref (gh (xG X) + a0)), none, none, some (.int p3), some (.int s39.2), none, some (.int 0), some (.int 0), none]) ?_ (And.intro rfl (And.intro rfl (And.intro rfl (And.intro rfl (And.intro rfl trivial)))))
                refine s_loop1 q58 (fun s63 : Int32 × Int32 => q58) (fun s63 : Int32 × Int32 => [some (.ref (gh (xG X) + a0)), none, none, some (.int p3), some (.int s39.2), none, some (.int s63.1), some (.int s63.2), none]) (fun x69 : Int32 => q58) 153 (fun x69 : Int32 => [some (.ref (gh (xG X) + a0)), none, none, some (.int p3), some (.int s39.2), none, some (.int x69), none, none]) (fun x69 hx70 => ?_) (fun T65 R67 hT66 hR68 s63 hs64 => ?_) (0, 0) Le.rf
                · show S0 X _ q58 153 [some (.ref (gh (xG X) + a0)), none, none, some (.int p3), some (.int s39.2), none, some (.int x69), none, none] [] _
                  refine s_aload_n (pc := 153) 0 dX12_line_153 rfl rfl ?_
                  refine s_geto (pc := 154) F_12 56 rfl o62 dX12_line_154 kf_X12_117 ?_
                  refine s_rvB (fun r76 => ?_)
                  refine s_iload (pc := 157) dX12_line_157 rfl ?_
                  refine s_iconst (pc := 159) 1 dX12_line_159 kc_1 ?_
                  refine s_iadd (pc := 160) dX12_line_160 ?_
                  refine s_aload_n (pc := 161) 0 dX12_line_161 rfl rfl ?_
                  refine s_geto (pc := 162) F_12 56 rfl o62 dX12_line_162 kf_X12_117 ?_
                  refine s_rvB (fun r77 => ?_)
                  refine s_iload (pc := 165) dX12_line_165 rfl ?_
                  refine s_grd (fun o78 => ?_)
                  refine s_grd (fun i79 => ?_)
                  refine s_iald (pc := 167) o78 i79 dX12_line_167 ?_
                  refine s_grd (fun o80 => ?_)
                  refine s_grd (fun i81 => ?_)
                  refine s_iast (pc := 168) o80 i81 dX12_line_168 (fun M82 hM83 => ?_)
                  have h84 := le_wI hM83
                  have o85 := h84.ok o62
                  refine s_iload (pc := 169) dX12_line_169 rfl ?_
                  refine s_join M82 (fun s87 : Mem => s87) 234 (fun s87 : Mem => [some (.ref (gh (xG X) + a0)), none, none, some (.int p3), some (.int s39.2), none, none, none, none]) (fun s87 : Mem => []) (fun s87 hs88 => ?_) (fun j86 hj89 => ?_)
                  · show S0 X _ s87 234 [some (.ref (gh (xG X) + a0)), none, none, some (.int p3), some (.int s39.2), none, none, none, none] [] _
                    have o90 := hs88.ok o85
                    refine s_iinc (pc := 234) dX12_line_234 rfl (v := s39.2 + 1) (congrArg (fun z : Int32 => s39.2 + z) kc_1) (nlt rfl) rfl (L' := [some (.ref (gh (xG X) + a0)), none, none, some (.int p3), some (.int (s39.2 + 1)), none, none, none, none]) rfl ?_
                    refine s_bv (fun x91 : Int32 => [some (.ref (gh (xG X) + a0)), none, none, some (.int p3), some (.int x91), none, none, none, none]) (fun x91 => ?_) rfl
                    refine s_goto (pc := 237) 66 dX12_line_237 rfl ?_
                    exact s_drop (hT42 (s87, x91) (hs40.tr (h61.tr (h84.tr hs88)))) (And.intro rfl (And.intro rfl (And.intro rfl trivial)))
                  · refine s_ifne (pc := 171) 177 dX12_line_171 rfl ?_ ?_
                    · refine s_aload_n (pc := 177) 0 dX12_line_177 rfl rfl ?_
                      refine s_iload (pc := 178) dX12_line_178 rfl ?_
                      refine s_bind (fun q92 hq93 => ?_)
                      have hC94 := t_X12_draws (l := xl X) (G := xG X) hq93
                      refine s_callV (pc := 180) (As := [.int x69]) (st := []) (nlt rfl) (q := (RX12, TX12, 59)) rfl rfl o85 cl_X12_draws wi_X12_draws wl_X12_draws km_X12_471 rfl rfl (nle rfl) (nle rfl) (nle rfl) dX12_line_180 hC94 ?_
                      have h95 := hC94.1 X
                      have o96 := h95.ok o85
                      show S0 X _ q92.1 183 [some (.ref (gh (xG X) + a0)), none, none, some (.int p3), some (.int s39.2), none, some (.int x69), none, none] [.int q92.2] _
                      refine s_istore (pc := 183) dX12_line_183 (nlt rfl) rfl (L' := [some (.ref (gh (xG X) + a0)), none, none, some (.int p3), some (.int s39.2), none, some (.int x69), some (.int q92.2), none]) rfl ?_
                      refine s_iconst (pc := 185) 0 dX12_line_185 kc_0 ?_
                      refine s_istore (pc := 186) dX12_line_186 (nlt rfl) rfl (L' := [some (.ref (gh (xG X) + a0)), none, none, some (.int p3), some (.int s39.2), none, some (.int x69), some (.int q92.2), some (.int 0)]) rfl ?_
                      refine s_drop (L' := [some (.ref (gh (xG X) + a0)), none, none, some (.int p3), some (.int s39.2), none, none, some (.int q92.2), some (.int 0)]) ?_ (And.intro rfl (And.intro rfl (And.intro rfl (And.intro rfl (And.intro rfl trivial)))))
                      refine s_loop1 q92.1 (fun s97 : Int32 × Int32 => q92.1) (fun s97 : Int32 × Int32 => [some (.ref (gh (xG X) + a0)), none, none, some (.int p3), some (.int s39.2), none, none, some (.int s97.1), some (.int s97.2)]) (fun x103 : Int32 => q92.1) 218 (fun x103 : Int32 => [some (.ref (gh (xG X) + a0)), none, none, some (.int p3), some (.int s39.2), none, none, none, some (.int x103)]) (fun x103 hx104 => ?_) (fun T99 R101 hT100 hR102 s97 hs98 => ?_) (q92.2, 0) Le.rf
                      · show S0 X _ q92.1 218 [some (.ref (gh (xG X) + a0)), none, none, some (.int p3), some (.int s39.2), none, none, none, some (.int x103)] [] _
                        refine s_aload_n (pc := 218) 0 dX12_line_218 rfl rfl ?_
                        refine s_geto (pc := 219) F_12 56 rfl o96 dX12_line_219 kf_X12_117 ?_
                        refine s_rvB (fun r113 => ?_)
                        refine s_iload (pc := 222) dX12_line_222 rfl ?_
                        refine s_iconst (pc := 224) 1 dX12_line_224 kc_1 ?_
                        refine s_iadd (pc := 225) dX12_line_225 ?_
                        refine s_aload_n (pc := 226) 0 dX12_line_226 rfl rfl ?_
                        refine s_geto (pc := 227) F_12 9 rfl o96 dX12_line_227 kf_X12_33 ?_
                        refine s_rvB (fun r114 => ?_)
                        refine s_iload (pc := 230) dX12_line_230 rfl ?_
                        refine s_grd (fun o115 => ?_)
                        refine s_grd (fun i116 => ?_)
                        refine s_iald (pc := 232) o115 i116 dX12_line_232 ?_
                        refine s_grd (fun o117 => ?_)
                        refine s_grd (fun i118 => ?_)
                        refine s_iast (pc := 233) o117 i118 dX12_line_233 (fun M119 hM120 => ?_)
                        have h121 := le_wI hM120
                        have o122 := h121.ok o96
                        exact s_drop (hj89 M119 (h95.tr h121)) (And.intro rfl (And.intro rfl (And.intro rfl trivial)))
                      · show S0 X _ q92.1 188 [some (.ref (gh (xG X) + a0)), none, none, some (.int p3), some (.int s39.2), none, none, some (.int s97.1), some (.int s97.2)] [] _
                        refine s_iload (pc := 188) dX12_line_188 rfl ?_
                        refine s_aload_n (pc := 190) 0 dX12_line_190 rfl rfl ?_
                        refine s_geto (pc := 191) F_12 10 rfl o96 dX12_line_191 kf_X12_36 ?_
                        refine s_rvB (fun r105 => ?_)
                        refine s_iload (pc := 194) dX12_line_194 rfl ?_
                        refine s_grd (fun o106 => ?_)
                        refine s_grd (fun i107 => ?_)
                        refine s_iald (pc := 196) o106 i107 dX12_line_196 ?_
                        refine s_iclt (pc := 197) 218 dX12_line_197 rfl ?_ ?_
                        · exact s_drop (hR102 s97.2 Le.rf) (And.intro rfl (And.intro rfl (And.intro rfl (And.intro rfl trivial))))
                        · refine s_iload (pc := 200) dX12_line_200 rfl ?_
                          refine s_aload_n (pc := 202) 0 dX12_line_202 rfl rfl ?_
                          refine s_geto (pc := 203) F_12 10 rfl o96 dX12_line_203 kf_X12_36 ?_
                          refine s_rvB (fun r108 => ?_)
                          refine s_iload (pc := 206) dX12_line_206 rfl ?_
                          refine s_grd (fun o109 => ?_)
                          refine s_grd (fun i110 => ?_)
                          refine s_iald (pc := 208) o109 i110 dX12_line_208 ?_
                          refine s_isub (pc := 209) dX12_line_209 ?_
                          refine s_istore (pc := 210) dX12_line_210 (nlt rfl) rfl (L' := [some (.ref (gh (xG X) + a0)), none, none, some (.int p3), some (.int s39.2), none, none, some (.int (s97.1 - (mI q92.1 r108 s97.2.toNatClampNeg))), some (.int s97.2)]) rfl ?_
                          refine s_bv (fun x111 : Int32 => [some (.ref (gh (xG X) + a0)), none, none, some (.int p3), some (.int s39.2), none, none, some (.int x111), some (.int s97.2)]) (fun x111 => ?_) rfl
                          refine s_iinc (pc := 212) dX12_line_212 rfl (v := s97.2 + 1) (congrArg (fun z : Int32 => s97.2 + z) kc_1) (nlt rfl) rfl (L' := [some (.ref (gh (xG X) + a0)), none, none, some (.int p3), some (.int s39.2), none, none, some (.int x111), some (.int (s97.2 + 1))]) rfl ?_
                          refine s_bv (fun x112 : Int32 => [some (.ref (gh (xG X) + a0)), none, none, some (.int p3), some (.int s39.2), none, none, some (.int x111), some (.int x112)]) (fun x112 => ?_) rfl
                          refine s_goto (pc := 215) 188 dX12_line_215 rfl ?_
                          exact s_drop (hT100 (x111, x112) Le.rf) (And.intro rfl (And.intro rfl (And.intro rfl (And.intro rfl (And.intro rfl trivial)))))
                    · refine s_goto (pc := 174) 234 dX12_line_174 rfl ?_
                      exact s_drop (hj89 M82 Le.rf) (And.intro rfl (And.intro rfl (And.intro rfl trivial)))
                · show S0 X _ q58 126 [some (.ref (gh (xG X) + a0)), none, none, some (.int p3), some (.int s39.2), none, some (.int s63.1), some (.int s63.2), none] [] _
                  refine s_iload (pc := 126) dX12_line_126 rfl ?_
                  refine s_aload_n (pc := 128) 0 dX12_line_128 rfl rfl ?_
                  refine s_geti (pc := 129) F_12 11 rfl o62 dX12_line_129 kf_X12_174 ?_
                  refine s_icge (pc := 132) 153 dX12_line_132 rfl ?_ ?_
                  · exact s_drop (hR68 s63.1 Le.rf) (And.intro rfl (And.intro rfl (And.intro rfl (And.intro rfl trivial))))
                  · refine s_iload (pc := 135) dX12_line_135 rfl ?_
                    refine s_aload_n (pc := 137) 0 dX12_line_137 rfl rfl ?_
                    refine s_geto (pc := 138) F_12 10 rfl o62 dX12_line_138 kf_X12_36 ?_
                    refine s_rvB (fun r71 => ?_)
                    refine s_iload (pc := 141) dX12_line_141 rfl ?_
                    refine s_grd (fun o72 => ?_)
                    refine s_grd (fun i73 => ?_)
                    refine s_iald (pc := 143) o72 i73 dX12_line_143 ?_
                    refine s_iadd (pc := 144) dX12_line_144 ?_
                    refine s_istore (pc := 145) dX12_line_145 (nlt rfl) rfl (L' := [some (.ref (gh (xG X) + a0)), none, none, some (.int p3), some (.int s39.2), none, some (.int (s63.1 + (mI q58 r71 s63.2.toNatClampNeg))), some (.int s63.2), none]) rfl ?_
                    refine s_bv (fun x74 : Int32 => [some (.ref (gh (xG X) + a0)), none, none, some (.int p3), some (.int s39.2), none, some (.int x74), some (.int s63.2), none]) (fun x74 => ?_) rfl
                    refine s_iinc (pc := 147) dX12_line_147 rfl (v := s63.2 + 1) (congrArg (fun z : Int32 => s63.2 + z) kc_1) (nlt rfl) rfl (L' := [some (.ref (gh (xG X) + a0)), none, none, some (.int p3), some (.int s39.2), none, some (.int x74), some (.int (s63.2 + 1)), none]) rfl ?_
                    refine s_bv (fun x75 : Int32 => [some (.ref (gh (xG X) + a0)), none, none, some (.int p3), some (.int s39.2), none, some (.int x74), some (.int x75), none]) (fun x75 => ?_) rfl
                    refine s_goto (pc := 150) 126 dX12_line_150 rfl ?_
                    exact s_drop (hT66 (x74, x75) Le.rf) (And.intro rfl (And.intro rfl (And.intro rfl (And.intro rfl (And.intro rfl trivial)))))
              · refine s_icle (pc := 85) 94 dX12_line_85 rfl ?_ ?_
                · refine s_aload_n (pc := 94) 0 dX12_line_94 rfl rfl ?_
                  refine s_geto (pc := 95) F_12 3 rfl o45 dX12_line_95 kf_X12_20 ?_
                  refine s_rvB (fun r123 => ?_)
                  refine s_bipush (pc := 98) 54 dX12_line_98 kb_54 ?_
                  refine s_grd (fun o124 => ?_)
                  refine s_grd (fun i125 => ?_)
                  refine s_iald (pc := 100) o124 i125 dX12_line_100 ?_
                  refine s_iload (pc := 101) dX12_line_101 rfl ?_
                  refine s_iadd (pc := 103) dX12_line_103 ?_
                  exact s_drop (hj54 ((mI s39.1 r123 (54 : Int32).toNatClampNeg) + s39.2) Le.rf) (And.intro rfl (And.intro rfl (And.intro rfl trivial)))
                · refine s_sipush (pc := 88) 999 dX12_line_88 ks_999 ?_
                  refine s_goto (pc := 91) 104 dX12_line_91 rfl ?_
                  exact s_drop (hj54 999 Le.rf) (And.intro rfl (And.intro rfl (And.intro rfl trivial)))
        · refine s_aload_n (pc := 34) 0 dX12_line_34 rfl rfl ?_
          refine s_bipush (pc := 35) (-2) dX12_line_35 kb_m2 ?_
          refine s_bind (fun q135 hq136 => ?_)
          have hC137 := t_X12_refuses (l := xl X) (G := xG X) hq136
          refine s_callV (pc := 37) (As := [.int (-2)]) (st := []) (nlt rfl) (q := (RX12, TX12, 59)) rfl rfl o17 cl_X12_refuses wi_X12_refuses wl_X12_refuses km_X12_127 rfl rfl (nle rfl) (nle rfl) (nle rfl) dX12_line_37 hC137 ?_
          have h138 := hC137.1 X
          have o139 := h138.ok o17
          show S0 X _ q135.1 40 [some (.ref (gh (xG X) + a0)), some (.int p1), some (.int p2), some (.int p3), none, none, none, none, none] [.int q135.2] _
          exact s_iret rfl dX12_line_40
      · exact s_drop (hj7 () Le.rf) (And.intro rfl trivial)
set_option maxRecDepth 100000 in
set_option maxHeartbeats 8000000 in
noncomputable def f_X12_obeys (M : Mem) (a0 : Nat) : Option (Mem × Int32) :=
  grd (okO M 12 a0) (if (mI M a0 51) = 19 then (Option.bind (mR M a0 55) (fun r18 => grd (okO M 15 r18) (grd (vp_in 0 (mL M r18)) (Option.bind (f_X12_small (mJ M r18 (0 : Int32).toNatClampNeg)) (fun q21 => Option.bind (mR M a0 55) (fun r24 => grd (okO M 15 r24) (grd (vp_in 2 (mL M r24)) (Option.bind (f_X12_small (mJ M r24 (2 : Int32).toNatClampNeg)) (fun q27 => Option.bind (mR M a0 55) (fun r30 => grd (okO M 15 r30) (grd (vp_in 1 (mL M r30)) (Option.bind (f_X12_small (mJ M r30 (1 : Int32).toNatClampNeg)) (fun q33 => Option.bind (f_X12_bears M a0 q21 (mI M a0 52) q27 q33) (fun q36 => if q36.2 < 0 then (some (q36.1, q36.2)) else (Option.bind (f_X12_fact q36.1 a0 q36.2 2) (fun q41 => bv (wI q36.1 a0 48 q41) (fun M44 => some (M44, q36.2)))))))))))))))))) else (Option.bind (mR M a0 55) (fun r2 => grd (okO M 15 r2) (grd (vp_in 0 (mL M r2)) (Option.bind (f_X12_small (mJ M r2 (0 : Int32).toNatClampNeg)) (fun q5 => Option.bind (f_X12_lies q5 0 999) (fun q8 => if q8 = 0 then (some (M, (-1))) else (Option.bind (mR M a0 3) (fun r11 => grd (okO M 14 r11) (grd (vp_in 54 (mL M r11)) (bv (wI M r11 (54 : Int32).toNatClampNeg q5) (fun M14 => some (M14, 0)))))))))))))
abbrev Y_X12_obeys : Sta := (RX12, "obeys", cX12_obeys, 2, (some .int), 208)
set_option maxRecDepth 100000 in
set_option maxHeartbeats 8000000 in
theorem t_X12_obeys {l : Launch} {G : Gh} {M : Mem} {a0 : Nat} {q : Mem × Int32} (h : f_X12_obeys M a0 = some q) : Ctr l G yX12_obeys Y_X12_obeys M [.ref (gh G + a0)] q.1 (some (.int q.2)) := by
  refine Ctr.of (Y := Y_X12_obeys) (L := [some (.ref (gh G + a0)), none]) (t := Option.bind (f_X12_obeys M a0) (fun q => some (q.1, some (.int q.2)))) (by decide) rfl rfl (nle rfl) (Lof_in 1 _ rfl) (fun X hG hl => ?_) (by rw [h]; rfl)
  subst hG
  subst hl
  unfold f_X12_obeys
  refine s_aload_n (pc := 0) 0 dX12_obeys_0 rfl rfl ?_
  refine s_grd (fun o1 => ?_)
  refine s_geti (pc := 1) F_12 51 rfl o1 dX12_obeys_1 kf_X12_434 ?_
  refine s_bipush (pc := 4) 19 dX12_obeys_4 kb_19 ?_
  refine s_icne (pc := 6) 61 dX12_obeys_6 rfl ?_ ?_
  · refine s_aload_n (pc := 61) 0 dX12_obeys_61 rfl rfl ?_
    refine s_geto (pc := 62) F_12 55 rfl o1 dX12_obeys_62 kf_X12_114 ?_
    refine s_rvB (fun r2 => ?_)
    refine s_iconst (pc := 65) 0 dX12_obeys_65 kc_0 ?_
    refine s_grd (fun o3 => ?_)
    refine s_grd (fun i4 => ?_)
    refine s_lald (pc := 66) o3 i4 dX12_obeys_66 ?_
    refine s_bind (fun q5 hq6 => ?_)
    have hC7 := t_X12_small (l := xl X) (G := xG X) (M := M) hq6
    refine s_callS (pc := 67) (As := [.long (mJ M r2 (0 : Int32).toNatClampNeg)]) (st := []) cl_X12_small wt_X12_small km_X12_452 rfl rfl (nle rfl) (nle rfl) (nle rfl) dX12_obeys_67 hC7 ?_
    show S0 X _ M 70 [some (.ref (gh (xG X) + a0)), none] [.int q5] _
    refine s_istore_n (pc := 70) 1 dX12_obeys_70 rfl (nlt rfl) rfl (L' := [some (.ref (gh (xG X) + a0)), some (.int q5)]) rfl ?_
    refine s_iload_n (pc := 71) 1 dX12_obeys_71 rfl rfl ?_
    refine s_iconst (pc := 72) 0 dX12_obeys_72 kc_0 ?_
    refine s_sipush (pc := 73) 999 dX12_obeys_73 ks_999 ?_
    refine s_bind (fun q8 hq9 => ?_)
    have hC10 := t_X12_lies (l := xl X) (G := xG X) (M := M) hq9
    refine s_callS (pc := 76) (As := [.int q5, .int 0, .int 999]) (st := []) cl_X12_lies wt_X12_lies km_X12_123 rfl rfl (nle rfl) (nle rfl) (nle rfl) dX12_obeys_76 hC10 ?_
    show S0 X _ M 79 [some (.ref (gh (xG X) + a0)), some (.int q5)] [.int q8] _
    refine s_ifne (pc := 79) 84 dX12_obeys_79 rfl ?_ ?_
    · refine s_aload_n (pc := 84) 0 dX12_obeys_84 rfl rfl ?_
      refine s_geto (pc := 85) F_12 3 rfl o1 dX12_obeys_85 kf_X12_20 ?_
      refine s_rvB (fun r11 => ?_)
      refine s_bipush (pc := 88) 54 dX12_obeys_88 kb_54 ?_
      refine s_iload_n (pc := 90) 1 dX12_obeys_90 rfl rfl ?_
      refine s_grd (fun o12 => ?_)
      refine s_grd (fun i13 => ?_)
      refine s_iast (pc := 91) o12 i13 dX12_obeys_91 (fun M14 hM15 => ?_)
      have h16 := le_wI hM15
      have o17 := h16.ok o1
      refine s_iconst (pc := 92) 0 dX12_obeys_92 kc_0 ?_
      exact s_iret rfl dX12_obeys_93
    · refine s_iconst (pc := 82) (-1) dX12_obeys_82 kc_m1 ?_
      exact s_iret rfl dX12_obeys_83
  · refine s_aload_n (pc := 9) 0 dX12_obeys_9 rfl rfl ?_
    refine s_aload_n (pc := 10) 0 dX12_obeys_10 rfl rfl ?_
    refine s_geto (pc := 11) F_12 55 rfl o1 dX12_obeys_11 kf_X12_114 ?_
    refine s_rvB (fun r18 => ?_)
    refine s_iconst (pc := 14) 0 dX12_obeys_14 kc_0 ?_
    refine s_grd (fun o19 => ?_)
    refine s_grd (fun i20 => ?_)
    refine s_lald (pc := 15) o19 i20 dX12_obeys_15 ?_
    refine s_bind (fun q21 hq22 => ?_)
    have hC23 := t_X12_small (l := xl X) (G := xG X) (M := M) hq22
    refine s_callS (pc := 16) (As := [.long (mJ M r18 (0 : Int32).toNatClampNeg)]) (st := [.ref (gh (xG X) + a0)]) cl_X12_small wt_X12_small km_X12_452 rfl rfl (nle rfl) (nle rfl) (nle rfl) dX12_obeys_16 hC23 ?_
    show S0 X _ M 19 [some (.ref (gh (xG X) + a0)), none] [.int q21, .ref (gh (xG X) + a0)] _
    refine s_aload_n (pc := 19) 0 dX12_obeys_19 rfl rfl ?_
    refine s_geti (pc := 20) F_12 52 rfl o1 dX12_obeys_20 kf_X12_441 ?_
    refine s_aload_n (pc := 23) 0 dX12_obeys_23 rfl rfl ?_
    refine s_geto (pc := 24) F_12 55 rfl o1 dX12_obeys_24 kf_X12_114 ?_
    refine s_rvB (fun r24 => ?_)
    refine s_iconst (pc := 27) 2 dX12_obeys_27 kc_2 ?_
    refine s_grd (fun o25 => ?_)
    refine s_grd (fun i26 => ?_)
    refine s_lald (pc := 28) o25 i26 dX12_obeys_28 ?_
    refine s_bind (fun q27 hq28 => ?_)
    have hC29 := t_X12_small (l := xl X) (G := xG X) (M := M) hq28
    refine s_callS (pc := 29) (As := [.long (mJ M r24 (2 : Int32).toNatClampNeg)]) (st := [.int (mI M a0 52), .int q21, .ref (gh (xG X) + a0)]) cl_X12_small wt_X12_small km_X12_452 rfl rfl (nle rfl) (nle rfl) (nle rfl) dX12_obeys_29 hC29 ?_
    show S0 X _ M 32 [some (.ref (gh (xG X) + a0)), none] [.int q27, .int (mI M a0 52), .int q21, .ref (gh (xG X) + a0)] _
    refine s_aload_n (pc := 32) 0 dX12_obeys_32 rfl rfl ?_
    refine s_geto (pc := 33) F_12 55 rfl o1 dX12_obeys_33 kf_X12_114 ?_
    refine s_rvB (fun r30 => ?_)
    refine s_iconst (pc := 36) 1 dX12_obeys_36 kc_1 ?_
    refine s_grd (fun o31 => ?_)
    refine s_grd (fun i32 => ?_)
    refine s_lald (pc := 37) o31 i32 dX12_obeys_37 ?_
    refine s_bind (fun q33 hq34 => ?_)
    have hC35 := t_X12_small (l := xl X) (G := xG X) (M := M) hq34
    refine s_callS (pc := 38) (As := [.long (mJ M r30 (1 : Int32).toNatClampNeg)]) (st := [.int q27, .int (mI M a0 52), .int q21, .ref (gh (xG X) + a0)]) cl_X12_small wt_X12_small km_X12_452 rfl rfl (nle rfl) (nle rfl) (nle rfl) dX12_obeys_38 hC35 ?_
    show S0 X _ M 41 [some (.ref (gh (xG X) + a0)), none] [.int q33, .int q27, .int (mI M a0 52), .int q21, .ref (gh (xG X) + a0)] _
    refine s_bind (fun q36 hq37 => ?_)
    have hC38 := t_X12_bears (l := xl X) (G := xG X) hq37
    refine s_callV (pc := 41) (As := [.int q21, .int (mI M a0 52), .int q27, .int q33]) (st := []) (nlt rfl) (q := (RX12, TX12, 59)) rfl rfl o1 cl_X12_bears wi_X12_bears wl_X12_bears km_X12_208 rfl rfl (nle rfl) (nle rfl) (nle rfl) dX12_obeys_41 hC38 ?_
    have h39 := hC38.1 X
    have o40 := h39.ok o1
    show S0 X _ q36.1 44 [some (.ref (gh (xG X) + a0)), none] [.int q36.2] _
    refine s_istore_n (pc := 44) 1 dX12_obeys_44 rfl (nlt rfl) rfl (L' := [some (.ref (gh (xG X) + a0)), some (.int q36.2)]) rfl ?_
    refine s_iload_n (pc := 45) 1 dX12_obeys_45 rfl rfl ?_
    refine s_iflt (pc := 46) 59 dX12_obeys_46 rfl ?_ ?_
    · refine s_iload_n (pc := 59) 1 dX12_obeys_59 rfl rfl ?_
      exact s_iret rfl dX12_obeys_60
    · refine s_aload_n (pc := 49) 0 dX12_obeys_49 rfl rfl ?_
      refine s_aload_n (pc := 50) 0 dX12_obeys_50 rfl rfl ?_
      refine s_iload_n (pc := 51) 1 dX12_obeys_51 rfl rfl ?_
      refine s_iconst (pc := 52) 2 dX12_obeys_52 kc_2 ?_
      refine s_bind (fun q41 hq42 => ?_)
      have hC43 := t_X12_fact (l := xl X) (G := xG X) hq42
      refine s_callV (pc := 53) (As := [.int q36.2, .int 2]) (st := [.ref (gh (xG X) + a0)]) (nlt rfl) (q := (RX12, TX12, 59)) rfl rfl o40 cl_X12_fact wi_X12_fact wl_X12_fact km_X12_194 rfl rfl (nle rfl) (nle rfl) (nle rfl) dX12_obeys_53 hC43 ?_
      show S0 X _ q36.1 56 [some (.ref (gh (xG X) + a0)), some (.int q36.2)] [.int q41, .ref (gh (xG X) + a0)] _
      refine s_puti (pc := 56) F_12 48 rfl o40 rfl rfl rfl dX12_obeys_56 kf_X12_422 (fun M44 hM45 => ?_)
      have h46 := le_wI hM45
      have o47 := h46.ok o40
      refine s_iload_n (pc := 59) 1 dX12_obeys_59 rfl rfl ?_
      exact s_iret rfl dX12_obeys_60
