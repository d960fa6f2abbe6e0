set_option maxRecDepth 100000 in
set_option maxHeartbeats 8000000 in
noncomputable def f_X11_row (M : Mem) (a0 : Nat) : Option (Mem × Int32) :=
  grd (okO M 11 a0) (Option.bind (mR M a0 2) (fun r2 => grd (okO M 7 r2) (if (mI M r2 4) = 0 then (Option.bind (f_X11_refuse M a0 (-6)) (fun q82 => some (q82.1, q82.2))) else (Option.bind (loopO (σ := Mem × Int32 × Int32 × Int32 × Int32) (ρ := Mem × Int32 × Int32) (fun s4 => Option.bind (mR s4.1 a0 2) (fun r13 => grd (okO s4.1 7 r13) (if (mI s4.1 r13 4) < s4.2.2.2.2 then (some (.inr (s4.1, s4.2.1, s4.2.2.1))) else (Option.bind (mR s4.1 a0 2) (fun r15 => grd (okO s4.1 7 r15) (Option.bind (f_X7_byteAt s4.1 r15 s4.2.2.2.2) (fun q17 => bv (fun (s21 : Mem × Int32 × Int32 × Int32) => bv (s4.2.2.2.2 + 1 : Int32) (fun x25 => some (.inl (s21.1, s21.2.1, s21.2.2.1, s21.2.2.2, x25)))) (fun j20 => if q17 = 0 then (bv (fun (s27 : Mem × Int32 × Int32) => bv (s4.2.2.2.2 + 1 : Int32) (fun x31 => j20 (s27.1, s27.2.1, s27.2.2, x31))) (fun j26 => if s4.2.2.2.2 ≤ s4.2.2.2.1 then (j26 (s4.1, s4.2.1, s4.2.2.1)) else (Option.bind (mR s4.1 a0 2) (fun r32 => grd (okO s4.1 7 r32) (Option.bind (f_X7_dishAt s4.1 r32 s4.2.2.2.1 s4.2.2.2.2) (fun q34 => bv (fun (s38 : Mem × Int32) => bv (fun (s43 : Int32) => bv (s4.2.1 + s43 : Int32) (fun x46 => bv (fun (s48 : Int32) => bv (s4.2.2.1 + s48 : Int32) (fun x51 => j26 (s38.1, x46, x51))) (fun j47 => if s38.2 = 0 then (j47 1) else (j47 0)))) (fun j42 => if s38.2 = 0 then (j42 0) else (j42 1))) (fun j37 => bv (fun (s53 : Mem) => j37 (s53, 0)) (fun j52 => if q34 = (-1) then (j52 s4.1) else (Option.bind (mR s4.1 a0 0) (fun r57 => Option.bind (mR s4.1 a0 0) (fun r58 => grd (okO s4.1 10 r58) (grd (okO s4.1 10 r57) (Option.bind (f_X10_add s4.1 r57 (-1) (mI s4.1 r58 11) q34) (fun q61 => if q61.2 < 0 then (j52 q61.1) else (j37 (q61.1, 1)))))))))))))))) else (j20 (s4.1, s4.2.1, s4.2.2.1, s4.2.2.2.1)))))))))) (M, 0, 0, 0, 0)) (fun (x11 : Mem × Int32 × Int32) => Option.bind (mR x11.1 a0 2) (fun r67 => grd (okO x11.1 7 r67) (bv (wI x11.1 r67 4 0) (fun M69 => bv (wI M69 a0 13 x11.2.2) (fun M73 => Option.bind (f_X11_accept M73 a0 x11.2.1) (fun q77 => some (q77.1, q77.2)))))))))))
abbrev Y_X11_row : Sta := (RX11, "row", cX11_row, 7, (some .int), 4)
set_option maxRecDepth 100000 in
set_option maxHeartbeats 8000000 in
theorem t_X11_row {l : Launch} {G : Gh} {M : Mem} {a0 : Nat} {q : Mem × Int32} (h : f_X11_row M a0 = some q) : Ctr l G yX11_row Y_X11_row M [.ref (gh G + a0)] q.1 (some (.int q.2)) := by
  refine Ctr.of (Y := Y_X11_row) (L := [some (.ref (gh G + a0)), none, none, none, none, none, none]) (t := Option.bind (f_X11_row M a0) (fun q => some (q.1, some (.int q.2)))) (by decide) rfl rfl (nle rfl) (Lof_in 6 _ rfl) (fun X hG hl => ?_) (by rw [h]; rfl)
  subst hG
  subst hl
  unfold f_X11_row
  refine s_aload_n (pc := 0) 0 dX11_row_0 rfl rfl ?_
  refine s_grd (fun o1 => ?_)
  refine s_geto (pc := 1) F_11 2 rfl o1 dX11_row_1 kf_X11_23 ?_
  refine s_rvB (fun r2 => ?_)
  refine s_grd (fun o3 => ?_)
  refine s_geti (pc := 4) F_7 4 rfl o3 dX11_row_4 kf_X11_176 ?_
  refine s_ifne (pc := 7) 17 dX11_row_7 rfl ?_ ?_
  · refine s_iconst (pc := 17) 0 dX11_row_17 kc_0 ?_
    refine s_istore_n (pc := 18) 1 dX11_row_18 rfl (nlt rfl) rfl (L' := [some (.ref (gh (xG X) + a0)), some (.int 0), none, none, none, none, none]) rfl ?_
    refine s_iconst (pc := 19) 0 dX11_row_19 kc_0 ?_
    refine s_istore_n (pc := 20) 2 dX11_row_20 rfl (nlt rfl) rfl (L' := [some (.ref (gh (xG X) + a0)), some (.int 0), some (.int 0), none, none, none, none]) rfl ?_
    refine s_iconst (pc := 21) 0 dX11_row_21 kc_0 ?_
    refine s_istore_n (pc := 22) 3 dX11_row_22 rfl (nlt rfl) rfl (L' := [some (.ref (gh (xG X) + a0)), some (.int 0), some (.int 0), some (.int 0), none, none, none]) rfl ?_
    refine s_iconst (pc := 23) 0 dX11_row_23 kc_0 ?_
    refine s_istore (pc := 24) dX11_row_24 (nlt rfl) rfl (L' := [some (.ref (gh (xG X) + a0)), some (.int 0), some (.int 0), some (.int 0), some (.int 0), none, none]) rfl ?_
    refine s_drop (L' := [some (.ref (gh (xG X) + a0)), some (.int 0), some (.int 0), some (.int 0), some (.int 0), none, none]) ?_ (And.intro rfl (And.intro rfl (And.intro rfl (And.intro rfl (And.intro rfl trivial)))))
    refine s_loop1 M (fun s4 : Mem × Int32 × Int32 × Int32 × Int32 => s4.1) (fun s4 : Mem × Int32 × Int32 × Int32 × Int32 => [some (.ref (gh (xG X) + a0)), some (.int s4.2.1), some (.int s4.2.2.1), some (.int s4.2.2.2.1), some (.int s4.2.2.2.2), none, none]) (fun x11 : Mem × Int32 × Int32 => x11.1) 141 (fun x11 : Mem × Int32 × Int32 => [some (.ref (gh (xG X) + a0)), some (.int x11.2.1), some (.int x11.2.2), none, none, none, none]) (fun x11 hx12 => ?_) (fun T6 R8 hT7 hR9 s4 hs5 => ?_) (M, 0, 0, 0, 0) Le.rf
    · show S0 X _ x11.1 141 [some (.ref (gh (xG X) + a0)), some (.int x11.2.1), some (.int x11.2.2), none, none, none, none] [] _
      have o66 := hx12.ok o1
      refine s_aload_n (pc := 141) 0 dX11_row_141 rfl rfl ?_
      refine s_geto (pc := 142) F_11 2 rfl o66 dX11_row_142 kf_X11_23 ?_
      refine s_rvB (fun r67 => ?_)
      refine s_iconst (pc := 145) 0 dX11_row_145 kc_0 ?_
      refine s_grd (fun o68 => ?_)
      refine s_puti (pc := 146) F_7 4 rfl o68 rfl rfl rfl dX11_row_146 kf_X11_176 (fun M69 hM70 => ?_)
      have h71 := le_wI hM70
      have o72 := h71.ok o66
      refine s_aload_n (pc := 149) 0 dX11_row_149 rfl rfl ?_
      refine s_iload_n (pc := 150) 2 dX11_row_150 rfl rfl ?_
      refine s_puti (pc := 151) F_11 13 rfl o72 rfl rfl rfl dX11_row_151 kf_X11_186 (fun M73 hM74 => ?_)
      have h75 := le_wI hM74
      have o76 := h75.ok o72
      refine s_aload_n (pc := 154) 0 dX11_row_154 rfl rfl ?_
      refine s_iload_n (pc := 155) 1 dX11_row_155 rfl rfl ?_
      refine s_bind (fun q77 hq78 => ?_)
      have hC79 := t_X11_accept (l := xl X) (G := xG X) hq78
      refine s_callV (pc := 156) (As := [.int x11.2.1]) (st := []) (nlt rfl) (q := (RX11, TX11, 16)) rfl rfl o76 cl_X11_accept wi_X11_accept wl_X11_accept km_X11_108 rfl rfl (nle rfl) (nle rfl) (nle rfl) dX11_row_156 hC79 ?_
      have h80 := hC79.1 X
      have o81 := h80.ok o76
      show S0 X _ q77.1 159 [some (.ref (gh (xG X) + a0)), some (.int x11.2.1), some (.int x11.2.2), none, none, none, none] [.int q77.2] _
      exact s_iret rfl dX11_row_159
    · show S0 X _ s4.1 26 [some (.ref (gh (xG X) + a0)), some (.int s4.2.1), some (.int s4.2.2.1), some (.int s4.2.2.2.1), some (.int s4.2.2.2.2), none, none] [] _
      have o10 := hs5.ok o1
      refine s_iload (pc := 26) dX11_row_26 rfl ?_
      refine s_aload_n (pc := 28) 0 dX11_row_28 rfl rfl ?_
      refine s_geto (pc := 29) F_11 2 rfl o10 dX11_row_29 kf_X11_23 ?_
      refine s_rvB (fun r13 => ?_)
      refine s_grd (fun o14 => ?_)
      refine s_geti (pc := 32) F_7 4 rfl o14 dX11_row_32 kf_X11_176 ?_
      refine s_icgt (pc := 35) 141 dX11_row_35 rfl ?_ ?_
      · exact s_drop (hR9 (s4.1, s4.2.1, s4.2.2.1) hs5) (And.intro rfl (And.intro rfl (And.intro rfl trivial)))
      · refine s_aload_n (pc := 38) 0 dX11_row_38 rfl rfl ?_
        refine s_geto (pc := 39) F_11 2 rfl o10 dX11_row_39 kf_X11_23 ?_
        refine s_rvB (fun r15 => ?_)
        refine s_iload (pc := 42) dX11_row_42 rfl ?_
        refine s_grd (fun o16 => ?_)
        refine s_bind (fun q17 hq18 => ?_)
        have hC19 := t_X7_byteAt (l := xl X) (G := xG X) hq18
        refine s_callV (pc := 44) (As := [.int s4.2.2.2.2]) (st := []) (nlt rfl) (q := (RX7, TX7, 10)) rfl rfl o16 cl_X7_byteAt wi_X7_byteAt wl_X7_byteAt km_X11_179 rfl rfl (nle rfl) (nle rfl) (nle rfl) dX11_row_44 hC19 ?_
        show S0 X _ s4.1 47 [some (.ref (gh (xG X) + a0)), some (.int s4.2.1), some (.int s4.2.2.1), some (.int s4.2.2.2.1), some (.int s4.2.2.2.2), none, none] [.int q17] _
        refine s_join s4.1 (fun s21 : Mem × Int32 × Int32 × Int32 => s21.1) 135 (fun s21 : Mem × Int32 × Int32 × Int32 => [some (.ref (gh (xG X) + a0)), some (.int s21.2.1), some (.int s21.2.2.1), some (.int s21.2.2.2), some (.int s4.2.2.2.2), none, none]) (fun s21 : Mem × Int32 × Int32 × Int32 => []) (fun s21 hs22 => ?_) (fun j20 hj23 => ?_)
        · show S0 X _ s21.1 135 [some (.ref (gh (xG X) + a0)), some (.int s21.2.1), some (.int s21.2.2.1), some (.int s21.2.2.2), some (.int s4.2.2.2.2), none, none] [] _
          have o24 := hs22.ok o10
          refine s_iinc (pc := 135) dX11_row_135 rfl (v := s4.2.2.2.2 + 1) (congrArg (fun z : Int32 => s4.2.2.2.2 + z) kc_1) (nlt rfl) rfl (L' := [some (.ref (gh (xG X) + a0)), some (.int s21.2.1), some (.int s21.2.2.1), some (.int s21.2.2.2), some (.int (s4.2.2.2.2 + 1)), none, none]) rfl ?_
          refine s_bv (fun x25 : Int32 => [some (.ref (gh (xG X) + a0)), some (.int s21.2.1), some (.int s21.2.2.1), some (.int s21.2.2.2), some (.int x25), none, none]) (fun x25 => ?_) rfl
          refine s_goto (pc := 138) 26 dX11_row_138 rfl ?_
          exact s_drop (hT7 (s21.1, s21.2.1, s21.2.2.1, s21.2.2.2, x25) (hs5.tr hs22)) (And.intro rfl (And.intro rfl (And.intro rfl (And.intro rfl (And.intro rfl trivial)))))
        · refine s_ifeq (pc := 47) 53 dX11_row_47 rfl ?_ ?_
          · refine s_iload (pc := 53) dX11_row_53 rfl ?_
            refine s_iload_n (pc := 55) 3 dX11_row_55 rfl rfl ?_
            refine s_join s4.1 (fun s27 : Mem × Int32 × Int32 => s27.1) 130 (fun s27 : Mem × Int32 × Int32 => [some (.ref (gh (xG X) + a0)), some (.int s27.2.1), some (.int s27.2.2), none, some (.int s4.2.2.2.2), none, none]) (fun s27 : Mem × Int32 × Int32 => []) (fun s27 hs28 => ?_) (fun j26 hj29 => ?_)
            · show S0 X _ s27.1 130 [some (.ref (gh (xG X) + a0)), some (.int s27.2.1), some (.int s27.2.2), none, some (.int s4.2.2.2.2), none, none] [] _
              have o30 := hs28.ok o10
              refine s_iload (pc := 130) dX11_row_130 rfl ?_
              refine s_iconst (pc := 132) 1 dX11_row_132 kc_1 ?_
              refine s_iadd (pc := 133) dX11_row_133 ?_
              refine s_istore_n (pc := 134) 3 dX11_row_134 rfl (nlt rfl) rfl (L' := [some (.ref (gh (xG X) + a0)), some (.int s27.2.1), some (.int s27.2.2), some (.int (s4.2.2.2.2 + 1)), some (.int s4.2.2.2.2), none, none]) rfl ?_
              refine s_bv (fun x31 : Int32 => [some (.ref (gh (xG X) + a0)), some (.int s27.2.1), some (.int s27.2.2), some (.int x31), some (.int s4.2.2.2.2), none, none]) (fun x31 => ?_) rfl
              exact s_drop (hj23 (s27.1, s27.2.1, s27.2.2, x31) hs28) (And.intro rfl (And.intro rfl (And.intro rfl (And.intro rfl (And.intro rfl trivial)))))
            · refine s_icle (pc := 56) 130 dX11_row_56 rfl ?_ ?_
              · exact s_drop (hj29 (s4.1, s4.2.1, s4.2.2.1) Le.rf) (And.intro rfl (And.intro rfl (And.intro rfl (And.intro rfl trivial))))
              · refine s_aload_n (pc := 59) 0 dX11_row_59 rfl rfl ?_
                refine s_geto (pc := 60) F_11 2 rfl o10 dX11_row_60 kf_X11_23 ?_
                refine s_rvB (fun r32 => ?_)
                refine s_iload_n (pc := 63) 3 dX11_row_63 rfl rfl ?_
                refine s_iload (pc := 64) dX11_row_64 rfl ?_
                refine s_grd (fun o33 => ?_)
                refine s_bind (fun q34 hq35 => ?_)
                have hC36 := t_X7_dishAt (l := xl X) (G := xG X) hq35
                refine s_callV (pc := 66) (As := [.int s4.2.2.2.1, .int s4.2.2.2.2]) (st := []) (nlt rfl) (q := (RX7, TX7, 10)) rfl rfl o33 cl_X7_dishAt wi_X7_dishAt wl_X7_dishAt km_X11_182 rfl rfl (nle rfl) (nle rfl) (nle rfl) dX11_row_66 hC36 ?_
                show S0 X _ s4.1 69 [some (.ref (gh (xG X) + a0)), some (.int s4.2.1), some (.int s4.2.2.1), some (.int s4.2.2.2.1), some (.int s4.2.2.2.2), none, none] [.int q34] _
                refine s_istore (pc := 69) dX11_row_69 (nlt rfl) rfl (L' := [some (.ref (gh (xG X) + a0)), some (.int s4.2.1), some (.int s4.2.2.1), some (.int s4.2.2.2.1), some (.int s4.2.2.2.2), some (.int q34), none]) rfl ?_
                refine s_iload (pc := 71) dX11_row_71 rfl ?_
                refine s_iconst (pc := 73) (-1) dX11_row_73 kc_m1 ?_
                refine s_join s4.1 (fun s38 : Mem × Int32 => s38.1) 102 (fun s38 : Mem × Int32 => [some (.ref (gh (xG X) + a0)), some (.int s4.2.1), some (.int s4.2.2.1), none, some (.int s4.2.2.2.2), none, none]) (fun s38 : Mem × Int32 => [.int s38.2]) (fun s38 hs39 => ?_) (fun j37 hj40 => ?_)
                · show S0 X _ s38.1 102 [some (.ref (gh (xG X) + a0)), some (.int s4.2.1), some (.int s4.2.2.1), none, some (.int s4.2.2.2.2), none, none] [.int s38.2] _
                  have o41 := hs39.ok o10
                  refine s_istore (pc := 102) dX11_row_102 (nlt rfl) rfl (L' := [some (.ref (gh (xG X) + a0)), some (.int s4.2.1), some (.int s4.2.2.1), none, some (.int s4.2.2.2.2), none, some (.int s38.2)]) rfl ?_
                  refine s_iload_n (pc := 104) 1 dX11_row_104 rfl rfl ?_
                  refine s_iload (pc := 105) dX11_row_105 rfl ?_
                  refine s_join s38.1 (fun s43 : Int32 => s38.1) 115 (fun s43 : Int32 => [some (.ref (gh (xG X) + a0)), none, some (.int s4.2.2.1), none, some (.int s4.2.2.2.2), none, some (.int s38.2)]) (fun s43 : Int32 => [.int s43, .int s4.2.1]) (fun s43 hs44 => ?_) (fun j42 hj45 => ?_)
                  · show S0 X _ s38.1 115 [some (.ref (gh (xG X) + a0)), none, some (.int s4.2.2.1), none, some (.int s4.2.2.2.2), none, some (.int s38.2)] [.int s43, .int s4.2.1] _
                    refine s_iadd (pc := 115) dX11_row_115 ?_
                    refine s_istore_n (pc := 116) 1 dX11_row_116 rfl (nlt rfl) rfl (L' := [some (.ref (gh (xG X) + a0)), some (.int (s4.2.1 + s43)), some (.int s4.2.2.1), none, some (.int s4.2.2.2.2), none, some (.int s38.2)]) rfl ?_
                    refine s_bv (fun x46 : Int32 => [some (.ref (gh (xG X) + a0)), some (.int x46), some (.int s4.2.2.1), none, some (.int s4.2.2.2.2), none, some (.int s38.2)]) (fun x46 => ?_) rfl
                    refine s_iload_n (pc := 117) 2 dX11_row_117 rfl rfl ?_
                    refine s_iload (pc := 118) dX11_row_118 rfl ?_
                    refine s_join s38.1 (fun s48 : Int32 => s38.1) 128 (fun s48 : Int32 => [some (.ref (gh (xG X) + a0)), some (.int x46), none, none, some (.int s4.2.2.2.2), none, none]) (fun s48 : Int32 => [.int s48, .int s4.2.2.1]) (fun s48 hs49 => ?_) (fun j47 hj50 => ?_)
                    · show S0 X _ s38.1 128 [some (.ref (gh (xG X) + a0)), some (.int x46), none, none, some (.int s4.2.2.2.2), none, none] [.int s48, .int s4.2.2.1] _
                      refine s_iadd (pc := 128) dX11_row_128 ?_
                      refine s_istore_n (pc := 129) 2 dX11_row_129 rfl (nlt rfl) rfl (L' := [some (.ref (gh (xG X) + a0)), some (.int x46), some (.int (s4.2.2.1 + s48)), none, some (.int s4.2.2.2.2), none, none]) rfl ?_
                      refine s_bv (fun x51 : Int32 => [some (.ref (gh (xG X) + a0)), some (.int x46), some (.int x51), none, some (.int s4.2.2.2.2), none, none]) (fun x51 => ?_) rfl
                      exact s_drop (hj29 (s38.1, x46, x51) hs39) (And.intro rfl (And.intro rfl (And.intro rfl (And.intro rfl trivial))))
                    · refine s_ifeq (pc := 120) 127 dX11_row_120 rfl ?_ ?_
                      · refine s_iconst (pc := 127) 1 dX11_row_127 kc_1 ?_
                        exact s_drop (hj50 1 Le.rf) (And.intro rfl (And.intro rfl (And.intro rfl trivial)))
                      · refine s_iconst (pc := 123) 0 dX11_row_123 kc_0 ?_
                        refine s_goto (pc := 124) 128 dX11_row_124 rfl ?_
                        exact s_drop (hj50 0 Le.rf) (And.intro rfl (And.intro rfl (And.intro rfl trivial)))
                  · refine s_ifeq (pc := 107) 114 dX11_row_107 rfl ?_ ?_
                    · refine s_iconst (pc := 114) 0 dX11_row_114 kc_0 ?_
                      exact s_drop (hj45 0 Le.rf) (And.intro rfl (And.intro rfl (And.intro rfl (And.intro rfl trivial))))
                    · refine s_iconst (pc := 110) 1 dX11_row_110 kc_1 ?_
                      refine s_goto (pc := 111) 115 dX11_row_111 rfl ?_
                      exact s_drop (hj45 1 Le.rf) (And.intro rfl (And.intro rfl (And.intro rfl (And.intro rfl trivial))))
                · refine s_join s4.1 (fun s53 : Mem => s53) 101 (fun s53 : Mem => [some (.ref (gh (xG X) + a0)), some (.int s4.2.1), some (.int s4.2.2.1), none, some (.int s4.2.2.2.2), none, none]) (fun s53 : Mem => []) (fun s53 hs54 => ?_) (fun j52 hj55 => ?_)
                  · show S0 X _ s53 101 [some (.ref (gh (xG X) + a0)), some (.int s4.2.1), some (.int s4.2.2.1), none, some (.int s4.2.2.2.2), none, none] [] _
                    have o56 := hs54.ok o10
                    refine s_iconst (pc := 101) 0 dX11_row_101 kc_0 ?_
                    exact s_drop (hj40 (s53, 0) hs54) (And.intro rfl (And.intro rfl (And.intro rfl (And.intro rfl trivial))))
                  · refine s_iceq (pc := 74) 101 dX11_row_74 rfl ?_ ?_
                    · exact s_drop (hj55 s4.1 Le.rf) (And.intro rfl (And.intro rfl (And.intro rfl (And.intro rfl trivial))))
                    · refine s_aload_n (pc := 77) 0 dX11_row_77 rfl rfl ?_
                      refine s_geto (pc := 78) F_11 0 rfl o10 dX11_row_78 kf_X11_10 ?_
                      refine s_rvB (fun r57 => ?_)
                      refine s_iconst (pc := 81) (-1) dX11_row_81 kc_m1 ?_
                      refine s_aload_n (pc := 82) 0 dX11_row_82 rfl rfl ?_
                      refine s_geto (pc := 83) F_11 0 rfl o10 dX11_row_83 kf_X11_10 ?_
                      refine s_rvB (fun r58 => ?_)
                      refine s_grd (fun o59 => ?_)
                      refine s_getiN (pc := 86) F_10 11 rfl o59 dX11_row_86 (List.mem_of_getElem? (i := 14) rfl) ?_
                      refine s_iload (pc := 89) dX11_row_89 rfl ?_
                      refine s_grd (fun o60 => ?_)
                      refine s_bind (fun q61 hq62 => ?_)
                      have hC63 := t_X10_add (l := xl X) (G := xG X) hq62
                      refine s_callV (pc := 91) (As := [.int (-1), .int (mI s4.1 r58 11), .int q34]) (st := []) (nlt rfl) (q := (RX10, TX10, 15)) rfl rfl o60 cl_X10_add wi_X10_add wl_X10_add km_X11_125 rfl rfl (nle rfl) (nle rfl) (nle rfl) dX11_row_91 hC63 ?_
                      have h64 := hC63.1 X
                      have o65 := h64.ok o10
                      show S0 X _ q61.1 94 [some (.ref (gh (xG X) + a0)), some (.int s4.2.1), some (.int s4.2.2.1), some (.int s4.2.2.2.1), some (.int s4.2.2.2.2), some (.int q34), none] [.int q61.2] _
                      refine s_iflt (pc := 94) 101 dX11_row_94 rfl ?_ ?_
                      · exact s_drop (hj55 q61.1 h64) (And.intro rfl (And.intro rfl (And.intro rfl (And.intro rfl trivial))))
                      · refine s_iconst (pc := 97) 1 dX11_row_97 kc_1 ?_
                        refine s_goto (pc := 98) 102 dX11_row_98 rfl ?_
                        exact s_drop (hj40 (q61.1, 1) h64) (And.intro rfl (And.intro rfl (And.intro rfl (And.intro rfl trivial))))
          · refine s_goto (pc := 50) 135 dX11_row_50 rfl ?_
            exact s_drop (hj23 (s4.1, s4.2.1, s4.2.2.1, s4.2.2.2.1) Le.rf) (And.intro rfl (And.intro rfl (And.intro rfl (And.intro rfl (And.intro rfl trivial)))))
  · refine s_aload_n (pc := 10) 0 dX11_row_10 rfl rfl ?_
    refine s_bipush (pc := 11) (-6) dX11_row_11 kb_m6 ?_
    refine s_bind (fun q82 hq83 => ?_)
    have hC84 := t_X11_refuse (l := xl X) (G := xG X) hq83
    refine s_callV (pc := 13) (As := [.int (-6)]) (st := []) (nlt rfl) (q := (RX11, TX11, 16)) rfl rfl o1 cl_X11_refuse wi_X11_refuse wl_X11_refuse km_X11_97 rfl rfl (nle rfl) (nle rfl) (nle rfl) dX11_row_13 hC84 ?_
    have h85 := hC84.1 X
    have o86 := h85.ok o1
    show S0 X _ q82.1 16 [some (.ref (gh (xG X) + a0)), none, none, none, none, none, none] [.int q82.2] _
    exact s_iret rfl dX11_row_16
set_option maxRecDepth 100000 in
set_option maxHeartbeats 8000000 in
noncomputable def f_X12_house (M : Mem) (a0 : Nat) (p1 : Int32) (p2 : Int32) (p3 : Int32) : Option (Mem × Int32) :=
  grd (okO M 12 a0) (Option.bind (f_X12_whyNot M a0 p1 p2 p3) (fun q2 => if 0 ≤ q2 then (Option.bind (f_X12_adds M a0 p1 p2 p3) (fun q5 => Option.bind (mR q5 a0 3) (fun r10 => grd (okO q5 14 r10) (grd (vp_in 56 (mL q5 r10)) (Option.bind (f_X12_good q5 a0 ((mI q5 r10 (56 : Int32).toNatClampNeg) - 1)) (fun q13 => some (q13.1, q13.2))))))) else (Option.bind (f_X12_refuses M a0 q2) (fun q18 => some (q18.1, q18.2)))))
abbrev Y_X12_house : Sta := (RX12, "house", cX12_house, 5, (some .int), 4)
set_option maxRecDepth 100000 in
set_option maxHeartbeats 8000000 in
theorem t_X12_house {l : Launch} {G : Gh} {M : Mem} {a0 : Nat} {p1 : Int32} {p2 : Int32} {p3 : Int32} {q : Mem × Int32} (h : f_X12_house M a0 p1 p2 p3 = some q) : Ctr l G yX12_house Y_X12_house M [.ref (gh G + a0), .int p1, .int p2, .int p3] q.1 (some (.int q.2)) := by
  refine Ctr.of (Y := Y_X12_house) (L := [some (.ref (gh G + a0)), some (.int p1), some (.int p2), some (.int p3), none]) (t := Option.bind (f_X12_house M a0 p1 p2 p3) (fun q => some (q.1, some (.int q.2)))) (by decide) rfl rfl (nle rfl) (Lof_in 1 _ rfl) (fun X hG hl => ?_) (by rw [h]; rfl)
  subst hG
  subst hl
  unfold f_X12_house
  refine s_aload_n (pc := 0) 0 dX12_house_0 rfl rfl ?_
  refine s_iload_n (pc := 1) 1 dX12_house_1 rfl rfl ?_
  refine s_iload_n (pc := 2) 2 dX12_house_2 rfl rfl ?_
  refine s_iload_n (pc := 3) 3 dX12_house_3 rfl rfl ?_
  refine s_grd (fun o1 => ?_)
  refine s_bind (fun q2 hq3 => ?_)
  have hC4 := t_X12_whyNot (l := xl X) (G := xG X) hq3
  refine s_callV (pc := 4) (As := [.int p1, .int p2, .int p3]) (st := []) (nlt rfl) (q := (RX12, TX12, 59)) rfl rfl o1 cl_X12_whyNot wi_X12_whyNot wl_X12_whyNot km_X12_197 rfl rfl (nle rfl) (nle rfl) (nle rfl) dX12_house_4 hC4 ?_
  show S0 X _ M 7 [some (.ref (gh (xG X) + a0)), some (.int p1), some (.int p2), some (.int p3), none] [.int q2] _
  refine s_istore (pc := 7) dX12_house_7 (nlt rfl) rfl (L' := [some (.ref (gh (xG X) + a0)), some (.int p1), some (.int p2), some (.int p3), some (.int q2)]) rfl ?_
  refine s_iload (pc := 9) dX12_house_9 rfl ?_
  refine s_ifge (pc := 11) 21 dX12_house_11 rfl ?_ ?_
  · refine s_aload_n (pc := 21) 0 dX12_house_21 rfl rfl ?_
    refine s_iload_n (pc := 22) 1 dX12_house_22 rfl rfl ?_
    refine s_iload_n (pc := 23) 2 dX12_house_23 rfl rfl ?_
    refine s_iload_n (pc := 24) 3 dX12_house_24 rfl rfl ?_
    refine s_bind (fun q5 hq6 => ?_)
    have hC7 := t_X12_adds (l := xl X) (G := xG X) hq6
    refine s_callV (pc := 25) (As := [.int p1, .int p2, .int p3]) (st := []) (nlt rfl) (q := (RX12, TX12, 59)) rfl rfl o1 cl_X12_adds wi_X12_adds wl_X12_adds km_X12_201 rfl rfl (nle rfl) (nle rfl) (nle rfl) dX12_house_25 hC7 ?_
    have h8 := hC7.1 X
    have o9 := h8.ok o1
    show S0 X _ q5 28 [some (.ref (gh (xG X) + a0)), some (.int p1), some (.int p2), some (.int p3), some (.int q2)] [] _
    refine s_aload_n (pc := 28) 0 dX12_house_28 rfl rfl ?_
    refine s_aload_n (pc := 29) 0 dX12_house_29 rfl rfl ?_
    refine s_geto (pc := 30) F_12 3 rfl o9 dX12_house_30 kf_X12_20 ?_
    refine s_rvB (fun r10 => ?_)
    refine s_bipush (pc := 33) 56 dX12_house_33 kb_56 ?_
    refine s_grd (fun o11 => ?_)
    refine s_grd (fun i12 => ?_)
    refine s_iald (pc := 35) o11 i12 dX12_house_35 ?_
    refine s_iconst (pc := 36) 1 dX12_house_36 kc_1 ?_
    refine s_isub (pc := 37) dX12_house_37 ?_
    refine s_bind (fun q13 hq14 => ?_)
    have hC15 := t_X12_good (l := xl X) (G := xG X) hq14
    refine s_callV (pc := 38) (As := [.int ((mI q5 r10 (56 : Int32).toNatClampNeg) - 1)]) (st := []) (nlt rfl) (q := (RX12, TX12, 59)) rfl rfl o9 cl_X12_good wi_X12_good wl_X12_good km_X12_131 rfl rfl (nle rfl) (nle rfl) (nle rfl) dX12_house_38 hC15 ?_
    have h16 := hC15.1 X
    have o17 := h16.ok o9
    show S0 X _ q13.1 41 [some (.ref (gh (xG X) + a0)), some (.int p1), some (.int p2), some (.int p3), some (.int q2)] [.int q13.2] _
    exact s_iret rfl dX12_house_41
  · refine s_aload_n (pc := 14) 0 dX12_house_14 rfl rfl ?_
    refine s_iload (pc := 15) dX12_house_15 rfl ?_
    refine s_bind (fun q18 hq19 => ?_)
    have hC20 := t_X12_refuses (l := xl X) (G := xG X) hq19
    refine s_callV (pc := 17) (As := [.int q2]) (st := []) (nlt rfl) (q := (RX12, TX12, 59)) rfl rfl o1 cl_X12_refuses wi_X12_refuses wl_X12_refuses km_X12_127 rfl rfl (nle rfl) (nle rfl) (nle rfl) dX12_house_17 hC20 ?_
    have h21 := hC20.1 X
    have o22 := h21.ok o1
    show S0 X _ q18.1 20 [some (.ref (gh (xG X) + a0)), some (.int p1), some (.int p2), some (.int p3), some (.int q2)] [.int q18.2] _
    exact s_iret rfl dX12_house_20
abbrev Y_X12_readPart (d : Nat) : Sta := (RX12, "readPart", cX12_readPart, 3, none, 4 + d)
abbrev Y_X12_readSum (d : Nat) : Sta := (RX12, "readSum", cX12_readSum, 2, none, 4 + d)
abbrev Y_X12_readTerm (d : Nat) : Sta := (RX12, "readTerm", cX12_readTerm, 2, none, 4 + d)
set_option maxRecDepth 100000 in
set_option maxHeartbeats 8000000 in
noncomputable def b_X12_readPart (g_X12_readSum : Mem → Nat → Int32 → Option Mem) (M : Mem) (a0 : Nat) (p1 : Int32) : Option Mem :=
  grd (okO M 12 a0) (Option.bind (f_X12_fine M a0) (fun q2 => if q2 = 0 then (some M) else (Option.bind (mR M a0 19) (fun r5 => grd (okO M 14 r5) (grd (vp_in (mI M a0 23) (mL M r5)) (bv (mI M r5 (mI M a0 23).toNatClampNeg : Int32) (fun x8 => Option.bind (f_X12_sign 91) (fun q9 => if x8 = q9 then (bv (fun (s56 : Mem) => Option.bind (f_X12_fine s56 a0) (fun q60 => if q60 = 0 then (some s56) else (bv (wI s56 a0 23 ((mI s56 a0 23) + 1)) (fun M63 => Option.bind (g_X12_readSum M63 a0 (p1 + 1)) (fun q67 => Option.bind (f_X12_sign 93) (fun q72 => Option.bind (f_X12_must q67 a0 q72) (fun q75 => some q75))))))) (fun j55 => if p1 = 8 then (Option.bind (f_X12_faults M a0) (fun q80 => j55 q80)) else (j55 M))) else (bv (fun (s13 : Unit) => Option.bind (f_X12_leaf M a0) (fun q16 => bv (fun (s22 : Mem) => if (mI s22 a0 14) = 0 then (some s22) else (if x8 = 11 then (Option.bind (f_X12_mustNumber s22 a0 0 5) (fun q26 => some q26)) else (some s22))) (fun j21 => if (mI q16 a0 14) = 0 then (j21 q16) else (bv (fun (s32 : Unit) => Option.bind (f_X12_mustNumber q16 a0 0 11) (fun q35 => j21 q35)) (fun j31 => if x8 = 10 then (j31 ()) else (if x8 = 11 then (j31 ()) else (j21 q16))))))) (fun j12 => bv (fun (s41 : Unit) => Option.bind (f_X12_isValue M a0 x8) (fun q44 => if q44 = 0 then (Option.bind (f_X12_faults M a0) (fun q47 => some q47)) else (j12 ()))) (fun j40 => if x8 = 50 then (Option.bind (mR M a0 20) (fun r52 => grd (okO M 14 r52) (grd (vp_in (mI M a0 23) (mL M r52)) (if (mI M r52 (mI M a0 23).toNatClampNeg) ≤ 1000 then (j12 ()) else (j40 ()))))) else (j40 ()))))))))))))
set_option maxRecDepth 100000 in
set_option maxHeartbeats 8000000 in
theorem t_X12_readPart {d : Nat} {g_X12_readSum : Mem → Nat → Int32 → Option Mem} {l : Launch} {G : Gh} {M : Mem} {a0 : Nat} {p1 : Int32} {q : Mem} (hg_X12_readSum : ∀ X : Ctx, xG X = G → xl X = l → ∀ (M : Mem) (a0 : Nat) (p1 : Int32) (q : Mem), g_X12_readSum M a0 p1 = some q → Ctr (xl X) (xG X) yX12_readSum (Y_X12_readSum d) M [.ref (gh (xG X) + a0), .int p1] q (none)) (h : b_X12_readPart g_X12_readSum M a0 p1 = some q) : Ctr l G yX12_readPart (Y_X12_readPart (d + 1)) M [.ref (gh G + a0), .int p1] q (none) := by
  refine Ctr.of (Y := (Y_X12_readPart (d + 1))) (L := [some (.ref (gh G + a0)), some (.int p1), none]) (t := Option.bind (b_X12_readPart g_X12_readSum M a0 p1) (fun q => some (q, (none : Option Value)))) (by decide) rfl rfl (nle rfl) (Lof_in 1 _ rfl) (fun X hG hl => ?_) (by rw [h]; rfl)
  subst hG
  subst hl
  unfold b_X12_readPart
  refine s_aload_n (pc := 0) 0 dX12_readPart_0 rfl rfl ?_
  refine s_grd (fun o1 => ?_)
  refine s_bind (fun q2 hq3 => ?_)
  have hC4 := t_X12_fine (l := xl X) (G := xG X) hq3
  refine s_callV (pc := 1) (As := []) (st := []) (nlt rfl) (q := (RX12, TX12, 59)) rfl rfl o1 cl_X12_fine wi_X12_fine wl_X12_fine km_X12_233 rfl rfl (Nat.le_trans (nle rfl : _ ≤ 4) (Nat.le_add_right 4 _)) (nle rfl) (nle rfl) dX12_readPart_1 hC4 ?_
  show S0 X _ M 4 [some (.ref (gh (xG X) + a0)), some (.int p1), none] [.int q2] _
  refine s_ifne (pc := 4) 8 dX12_readPart_4 rfl ?_ ?_
  · refine s_aload_n (pc := 8) 0 dX12_readPart_8 rfl rfl ?_
    refine s_geto (pc := 9) F_12 19 rfl o1 dX12_readPart_9 kf_X12_52 ?_
    refine s_rvB (fun r5 => ?_)
    refine s_aload_n (pc := 12) 0 dX12_readPart_12 rfl rfl ?_
    refine s_geti (pc := 13) F_12 23 rfl o1 dX12_readPart_13 kf_X12_237 ?_
    refine s_grd (fun o6 => ?_)
    refine s_grd (fun i7 => ?_)
    refine s_iald (pc := 16) o6 i7 dX12_readPart_16 ?_
    refine s_istore_n (pc := 17) 2 dX12_readPart_17 rfl (nlt rfl) rfl (L' := [some (.ref (gh (xG X) + a0)), some (.int p1), some (.int (mI M r5 (mI M a0 23).toNatClampNeg))]) rfl ?_
    refine s_bv (fun x8 : Int32 => [some (.ref (gh (xG X) + a0)), some (.int p1), some (.int x8)]) (fun x8 => ?_) rfl
    refine s_iload_n (pc := 18) 2 dX12_readPart_18 rfl rfl ?_
    refine s_bipush (pc := 19) 91 dX12_readPart_19 kb_91 ?_
    refine s_bind (fun q9 hq10 => ?_)
    have hC11 := t_X12_sign (l := xl X) (G := xG X) (M := M) hq10
    refine s_callS (pc := 21) (As := [.int 91]) (st := [.int x8]) cl_X12_sign wt_X12_sign km_X12_278 rfl rfl (Nat.le_trans (nle rfl : _ ≤ 4) (Nat.le_add_right 4 _)) (nle rfl) (nle rfl) dX12_readPart_21 hC11 ?_
    show S0 X _ M 24 [some (.ref (gh (xG X) + a0)), some (.int p1), some (.int x8)] [.int q9, .int x8] _
    refine s_icne (pc := 24) 74 dX12_readPart_24 rfl ?_ ?_
    · refine s_iload_n (pc := 74) 2 dX12_readPart_74 rfl rfl ?_
      refine s_bipush (pc := 75) 50 dX12_readPart_75 kb_50 ?_
      refine s_join M (fun s13 : Unit => M) 103 (fun s13 : Unit => [some (.ref (gh (xG X) + a0)), none, some (.int x8)]) (fun s13 : Unit => []) (fun s13 hs14 => ?_) (fun j12 hj15 => ?_)
      · show S0 X _ M 103 [some (.ref (gh (xG X) + a0)), none, some (.int x8)] [] _
        refine s_aload_n (pc := 103) 0 dX12_readPart_103 rfl rfl ?_
        refine s_bind (fun q16 hq17 => ?_)
        have hC18 := t_X12_leaf (l := xl X) (G := xG X) hq17
        refine s_callV (pc := 104) (As := []) (st := []) (nlt rfl) (q := (RX12, TX12, 59)) rfl rfl o1 cl_X12_leaf wi_X12_leaf wl_X12_leaf km_X12_291 rfl rfl (Nat.le_trans (nle rfl : _ ≤ 4) (Nat.le_add_right 4 _)) (nle rfl) (nle rfl) dX12_readPart_104 hC18 ?_
        have h19 := hC18.1 X
        have o20 := h19.ok o1
        show S0 X _ q16 107 [some (.ref (gh (xG X) + a0)), none, some (.int x8)] [] _
        refine s_aload_n (pc := 107) 0 dX12_readPart_107 rfl rfl ?_
        refine s_geti (pc := 108) F_12 14 rfl o20 dX12_readPart_108 kf_X12_249 ?_
        refine s_join q16 (fun s22 : Mem => s22) 133 (fun s22 : Mem => [some (.ref (gh (xG X) + a0)), none, some (.int x8)]) (fun s22 : Mem => []) (fun s22 hs23 => ?_) (fun j21 hj24 => ?_)
        · show S0 X _ s22 133 [some (.ref (gh (xG X) + a0)), none, some (.int x8)] [] _
          have o25 := hs23.ok o20
          refine s_aload_n (pc := 133) 0 dX12_readPart_133 rfl rfl ?_
          refine s_geti (pc := 134) F_12 14 rfl o25 dX12_readPart_134 kf_X12_249 ?_
          refine s_ifeq (pc := 137) 159 dX12_readPart_137 rfl ?_ ?_
          · exact s_vret rfl dX12_readPart_159
          · refine s_iload_n (pc := 140) 2 dX12_readPart_140 rfl rfl ?_
            refine s_bipush (pc := 141) 11 dX12_readPart_141 kb_11 ?_
            refine s_icne (pc := 143) 159 dX12_readPart_143 rfl ?_ ?_
            · exact s_vret rfl dX12_readPart_159
            · refine s_aload_n (pc := 146) 0 dX12_readPart_146 rfl rfl ?_
              refine s_iconst (pc := 147) 0 dX12_readPart_147 kc_0 ?_
              refine s_iconst (pc := 148) 5 dX12_readPart_148 kc_5 ?_
              refine s_bind (fun q26 hq27 => ?_)
              have hC28 := t_X12_mustNumber (l := xl X) (G := xG X) hq27
              refine s_callV (pc := 149) (As := [.int 0, .int 5]) (st := []) (nlt rfl) (q := (RX12, TX12, 59)) rfl rfl o25 cl_X12_mustNumber wi_X12_mustNumber wl_X12_mustNumber km_X12_262 rfl rfl (Nat.le_trans (nle rfl : _ ≤ 4) (Nat.le_add_right 4 _)) (nle rfl) (nle rfl) dX12_readPart_149 hC28 ?_
              have h29 := hC28.1 X
              have o30 := h29.ok o25
              show S0 X _ q26 152 [some (.ref (gh (xG X) + a0)), none, some (.int x8)] [] _
              refine s_goto (pc := 152) 159 dX12_readPart_152 rfl ?_
              exact s_vret rfl dX12_readPart_159
        · refine s_ifeq (pc := 111) 133 dX12_readPart_111 rfl ?_ ?_
          · exact s_drop (hj24 q16 Le.rf) (And.intro rfl (And.intro rfl trivial))
          · refine s_iload_n (pc := 114) 2 dX12_readPart_114 rfl rfl ?_
            refine s_bipush (pc := 115) 10 dX12_readPart_115 kb_10 ?_
            refine s_join q16 (fun s32 : Unit => q16) 126 (fun s32 : Unit => [some (.ref (gh (xG X) + a0)), none, some (.int x8)]) (fun s32 : Unit => []) (fun s32 hs33 => ?_) (fun j31 hj34 => ?_)
            · show S0 X _ q16 126 [some (.ref (gh (xG X) + a0)), none, some (.int x8)] [] _
              refine s_aload_n (pc := 126) 0 dX12_readPart_126 rfl rfl ?_
              refine s_iconst (pc := 127) 0 dX12_readPart_127 kc_0 ?_
              refine s_bipush (pc := 128) 11 dX12_readPart_128 kb_11 ?_
              refine s_bind (fun q35 hq36 => ?_)
              have hC37 := t_X12_mustNumber (l := xl X) (G := xG X) hq36
              refine s_callV (pc := 130) (As := [.int 0, .int 11]) (st := []) (nlt rfl) (q := (RX12, TX12, 59)) rfl rfl o20 cl_X12_mustNumber wi_X12_mustNumber wl_X12_mustNumber km_X12_262 rfl rfl (Nat.le_trans (nle rfl : _ ≤ 4) (Nat.le_add_right 4 _)) (nle rfl) (nle rfl) dX12_readPart_130 hC37 ?_
              have h38 := hC37.1 X
              have o39 := h38.ok o20
              show S0 X _ q35 133 [some (.ref (gh (xG X) + a0)), none, some (.int x8)] [] _
              exact s_drop (hj24 q35 h38) (And.intro rfl (And.intro rfl trivial))
            · refine s_iceq (pc := 117) 126 dX12_readPart_117 rfl ?_ ?_
              · exact s_drop (hj34 () Le.rf) (And.intro rfl (And.intro rfl trivial))
              · refine s_iload_n (pc := 120) 2 dX12_readPart_120 rfl rfl ?_
                refine s_bipush (pc := 121) 11 dX12_readPart_121 kb_11 ?_
                refine s_icne (pc := 123) 133 dX12_readPart_123 rfl ?_ ?_
                · exact s_drop (hj24 q16 Le.rf) (And.intro rfl (And.intro rfl trivial))
                · exact s_drop (hj34 () Le.rf) (And.intro rfl (And.intro rfl trivial))
      · refine s_join M (fun s41 : Unit => M) 95 (fun s41 : Unit => [some (.ref (gh (xG X) + a0)), none, some (.int x8)]) (fun s41 : Unit => []) (fun s41 hs42 => ?_) (fun j40 hj43 => ?_)
        · show S0 X _ M 95 [some (.ref (gh (xG X) + a0)), none, some (.int x8)] [] _
          refine s_aload_n (pc := 95) 0 dX12_readPart_95 rfl rfl ?_
          refine s_iload_n (pc := 96) 2 dX12_readPart_96 rfl rfl ?_
          refine s_bind (fun q44 hq45 => ?_)
          have hC46 := t_X12_isValue (l := xl X) (G := xG X) hq45
          refine s_callV (pc := 97) (As := [.int x8]) (st := []) (nlt rfl) (q := (RX12, TX12, 59)) rfl rfl o1 cl_X12_isValue wi_X12_isValue wl_X12_isValue km_X12_288 rfl rfl (Nat.le_trans (nle rfl : _ ≤ 4) (Nat.le_add_right 4 _)) (nle rfl) (nle rfl) dX12_readPart_97 hC46 ?_
          show S0 X _ M 100 [some (.ref (gh (xG X) + a0)), none, some (.int x8)] [.int q44] _
          refine s_ifeq (pc := 100) 155 dX12_readPart_100 rfl ?_ ?_
          · refine s_aload_n (pc := 155) 0 dX12_readPart_155 rfl rfl ?_
            refine s_bind (fun q47 hq48 => ?_)
            have hC49 := t_X12_faults (l := xl X) (G := xG X) hq48
            refine s_callV (pc := 156) (As := []) (st := []) (nlt rfl) (q := (RX12, TX12, 59)) rfl rfl o1 cl_X12_faults wi_X12_faults wl_X12_faults km_X12_243 rfl rfl (Nat.le_trans (nle rfl : _ ≤ 4) (Nat.le_add_right 4 _)) (nle rfl) (nle rfl) dX12_readPart_156 hC49 ?_
            have h50 := hC49.1 X
            have o51 := h50.ok o1
            show S0 X _ q47 159 [some (.ref (gh (xG X) + a0)), none, some (.int x8)] [] _
            exact s_vret rfl dX12_readPart_159
          · exact s_drop (hj15 () Le.rf) (And.intro rfl (And.intro rfl trivial))
        · refine s_icne (pc := 77) 95 dX12_readPart_77 rfl ?_ ?_
          · exact s_drop (hj43 () Le.rf) (And.intro rfl (And.intro rfl trivial))
          · refine s_aload_n (pc := 80) 0 dX12_readPart_80 rfl rfl ?_
            refine s_geto (pc := 81) F_12 20 rfl o1 dX12_readPart_81 kf_X12_55 ?_
            refine s_rvB (fun r52 => ?_)
            refine s_aload_n (pc := 84) 0 dX12_readPart_84 rfl rfl ?_
            refine s_geti (pc := 85) F_12 23 rfl o1 dX12_readPart_85 kf_X12_237 ?_
            refine s_grd (fun o53 => ?_)
            refine s_grd (fun i54 => ?_)
            refine s_iald (pc := 88) o53 i54 dX12_readPart_88 ?_
            refine s_sipush (pc := 89) 1000 dX12_readPart_89 ks_1000 ?_
            refine s_icle (pc := 92) 103 dX12_readPart_92 rfl ?_ ?_
            · exact s_drop (hj15 () Le.rf) (And.intro rfl (And.intro rfl trivial))
            · exact s_drop (hj43 () Le.rf) (And.intro rfl (And.intro rfl trivial))
    · refine s_iload_n (pc := 27) 1 dX12_readPart_27 rfl rfl ?_
      refine s_bipush (pc := 28) 8 dX12_readPart_28 kb_8 ?_
      refine s_join M (fun s56 : Mem => s56) 37 (fun s56 : Mem => [some (.ref (gh (xG X) + a0)), some (.int p1), none]) (fun s56 : Mem => []) (fun s56 hs57 => ?_) (fun j55 hj58 => ?_)
      · show S0 X _ s56 37 [some (.ref (gh (xG X) + a0)), some (.int p1), none] [] _
        have o59 := hs57.ok o1
        refine s_aload_n (pc := 37) 0 dX12_readPart_37 rfl rfl ?_
        refine s_bind (fun q60 hq61 => ?_)
        have hC62 := t_X12_fine (l := xl X) (G := xG X) hq61
        refine s_callV (pc := 38) (As := []) (st := []) (nlt rfl) (q := (RX12, TX12, 59)) rfl rfl o59 cl_X12_fine wi_X12_fine wl_X12_fine km_X12_233 rfl rfl (Nat.le_trans (nle rfl : _ ≤ 4) (Nat.le_add_right 4 _)) (nle rfl) (nle rfl) dX12_readPart_38 hC62 ?_
        show S0 X _ s56 41 [some (.ref (gh (xG X) + a0)), some (.int p1), none] [.int q60] _
        refine s_ifne (pc := 41) 45 dX12_readPart_41 rfl ?_ ?_
        · refine s_aload_n (pc := 45) 0 dX12_readPart_45 rfl rfl ?_
          refine s_dup (pc := 46) dX12_readPart_46 rfl ?_
          refine s_geti (pc := 47) F_12 23 rfl o59 dX12_readPart_47 kf_X12_237 ?_
          refine s_iconst (pc := 50) 1 dX12_readPart_50 kc_1 ?_
          refine s_iadd (pc := 51) dX12_readPart_51 ?_
          refine s_puti (pc := 52) F_12 23 rfl o59 rfl rfl rfl dX12_readPart_52 kf_X12_237 (fun M63 hM64 => ?_)
          have h65 := le_wI hM64
          have o66 := h65.ok o59
          refine s_aload_n (pc := 55) 0 dX12_readPart_55 rfl rfl ?_
          refine s_iload_n (pc := 56) 1 dX12_readPart_56 rfl rfl ?_
          refine s_iconst (pc := 57) 1 dX12_readPart_57 kc_1 ?_
          refine s_iadd (pc := 58) dX12_readPart_58 ?_
          refine s_bind (fun q67 hq68 => ?_)
          have hC69 := hg_X12_readSum X rfl rfl M63 a0 (p1 + 1) q67 hq68
          refine s_callV (pc := 59) (As := [.int (p1 + 1)]) (st := []) (nlt rfl) (q := (RX12, TX12, 59)) rfl rfl o66 cl_X12_readSum wi_X12_readSum wl_X12_readSum km_X12_253 rfl rfl (Nat.le_refl _) (nle rfl) (nle rfl) dX12_readPart_59 hC69 ?_
          have h70 := hC69.1 X
          have o71 := h70.ok o66
          show S0 X _ q67 62 [some (.ref (gh (xG X) + a0)), some (.int p1), none] [] _
          refine s_aload_n (pc := 62) 0 dX12_readPart_62 rfl rfl ?_
          refine s_bipush (pc := 63) 93 dX12_readPart_63 kb_93 ?_
          refine s_bind (fun q72 hq73 => ?_)
          have hC74 := t_X12_sign (l := xl X) (G := xG X) (M := q67) hq73
          refine s_callS (pc := 65) (As := [.int 93]) (st := [.ref (gh (xG X) + a0)]) cl_X12_sign wt_X12_sign km_X12_278 rfl rfl (Nat.le_trans (nle rfl : _ ≤ 4) (Nat.le_add_right 4 _)) (nle rfl) (nle rfl) dX12_readPart_65 hC74 ?_
          show S0 X _ q67 68 [some (.ref (gh (xG X) + a0)), some (.int p1), none] [.int q72, .ref (gh (xG X) + a0)] _
          refine s_bind (fun q75 hq76 => ?_)
          have hC77 := t_X12_must (l := xl X) (G := xG X) hq76
          refine s_callV (pc := 68) (As := [.int q72]) (st := []) (nlt rfl) (q := (RX12, TX12, 59)) rfl rfl o71 cl_X12_must wi_X12_must wl_X12_must km_X12_256 rfl rfl (Nat.le_trans (nle rfl : _ ≤ 4) (Nat.le_add_right 4 _)) (nle rfl) (nle rfl) dX12_readPart_68 hC77 ?_
          have h78 := hC77.1 X
          have o79 := h78.ok o71
          show S0 X _ q75 71 [some (.ref (gh (xG X) + a0)), some (.int p1), none] [] _
          refine s_goto (pc := 71) 159 dX12_readPart_71 rfl ?_
          exact s_vret rfl dX12_readPart_159
        · exact s_vret rfl dX12_readPart_44
      · refine s_icne (pc := 30) 37 dX12_readPart_30 rfl ?_ ?_
        · exact s_drop (hj58 M Le.rf) (And.intro rfl (And.intro rfl trivial))
        · refine s_aload_n (pc := 33) 0 dX12_readPart_33 rfl rfl ?_
          refine s_bind (fun q80 hq81 => ?_)
          have hC82 := t_X12_faults (l := xl X) (G := xG X) hq81
          refine s_callV (pc := 34) (As := []) (st := []) (nlt rfl) (q := (RX12, TX12, 59)) rfl rfl o1 cl_X12_faults wi_X12_faults wl_X12_faults km_X12_243 rfl rfl (Nat.le_trans (nle rfl : _ ≤ 4) (Nat.le_add_right 4 _)) (nle rfl) (nle rfl) dX12_readPart_34 hC82 ?_
          have h83 := hC82.1 X
          have o84 := h83.ok o1
          show S0 X _ q80 37 [some (.ref (gh (xG X) + a0)), some (.int p1), some (.int x8)] [] _
          exact s_drop (hj58 q80 h83) (And.intro rfl (And.intro rfl trivial))
  · exact s_vret rfl dX12_readPart_7
set_option maxRecDepth 100000 in
set_option maxHeartbeats 8000000 in
noncomputable def b_X12_readSum (g_X12_readTerm : Mem → Nat → Int32 → Option Mem) (M : Mem) (a0 : Nat) (p1 : Int32) : Option Mem :=
  grd (okO M 12 a0) (Option.bind (g_X12_readTerm M a0 p1) (fun q2 => Option.bind (loopO (σ := Mem) (ρ := Mem) (fun s7 => Option.bind (f_X12_sign 43) (fun q16 => Option.bind (f_X12_takes0 s7 a0 q16) (fun q19 => bv (fun (s25 : Mem) => Option.bind (g_X12_readTerm s25 a0 p1) (fun q29 => some (.inl q29))) (fun j24 => if q19.2 = 0 then (Option.bind (f_X12_sign 45) (fun q34 => Option.bind (f_X12_takes0 q19.1 a0 q34) (fun q37 => if q37.2 = 0 then (some (.inr q37.1)) else (j24 q37.1)))) else (j24 q19.1))))) q2) (fun (x14 : Mem) => some x14)))
set_option maxRecDepth 100000 in
set_option maxHeartbeats 8000000 in
theorem t_X12_readSum {d : Nat} {g_X12_readTerm : Mem → Nat → Int32 → Option Mem} {l : Launch} {G : Gh} {M : Mem} {a0 : Nat} {p1 : Int32} {q : Mem} (hg_X12_readTerm : ∀ X : Ctx, xG X = G → xl X = l → ∀ (M : Mem) (a0 : Nat) (p1 : Int32) (q : Mem), g_X12_readTerm M a0 p1 = some q → Ctr (xl X) (xG X) yX12_readTerm (Y_X12_readTerm d) M [.ref (gh (xG X) + a0), .int p1] q (none)) (h : b_X12_readSum g_X12_readTerm M a0 p1 = some q) : Ctr l G yX12_readSum (Y_X12_readSum (d + 1)) M [.ref (gh G + a0), .int p1] q (none) := by
  refine Ctr.of (Y := (Y_X12_readSum (d + 1))) (L := [some (.ref (gh G + a0)), some (.int p1)]) (t := Option.bind (b_X12_readSum g_X12_readTerm M a0 p1) (fun q => some (q, (none : Option Value)))) (by decide) rfl rfl (nle rfl) (Lof_in 0 _ rfl) (fun X hG hl => ?_) (by rw [h]; rfl)
  subst hG
  subst hl
  unfold b_X12_readSum
  refine s_aload_n (pc := 0) 0 dX12_readSum_0 rfl rfl ?_
  refine s_iload_n (pc := 1) 1 dX12_readSum_1 rfl rfl ?_
  refine s_grd (fun o1 => ?_)
  refine s_bind (fun q2 hq3 => ?_)
  have hC4 := hg_X12_readTerm X rfl rfl M a0 p1 q2 hq3
  refine s_callV (pc := 2) (As := [.int p1]) (st := []) (nlt rfl) (q := (RX12, TX12, 59)) rfl rfl o1 cl_X12_readTerm wi_X12_readTerm wl_X12_readTerm km_X12_282 rfl rfl (Nat.le_refl _) (nle rfl) (nle rfl) dX12_readSum_2 hC4 ?_
  have h5 := hC4.1 X
  have o6 := h5.ok o1
  show S0 X _ q2 5 [some (.ref (gh (xG X) + a0)), some (.int p1)] [] _
  refine s_drop (L' := [some (.ref (gh (xG X) + a0)), some (.int p1)]) ?_ (And.intro rfl (And.intro rfl trivial))
  refine s_loop1 q2 (fun s7 : Mem => s7) (fun s7 : Mem => [some (.ref (gh (xG X) + a0)), some (.int p1)]) (fun x14 : Mem => x14) 37 (fun x14 : Mem => [none, none]) (fun x14 hx15 => ?_) (fun T9 R11 hT10 hR12 s7 hs8 => ?_) q2 Le.rf
  · show S0 X _ x14 37 [none, none] [] _
    exact s_vret rfl dX12_readSum_37
  · show S0 X _ s7 5 [some (.ref (gh (xG X) + a0)), some (.int p1)] [] _
    have o13 := hs8.ok o6
    refine s_aload_n (pc := 5) 0 dX12_readSum_5 rfl rfl ?_
    refine s_bipush (pc := 6) 43 dX12_readSum_6 kb_43 ?_
    refine s_bind (fun q16 hq17 => ?_)
    have hC18 := t_X12_sign (l := xl X) (G := xG X) (M := s7) hq17
    refine s_callS (pc := 8) (As := [.int 43]) (st := [.ref (gh (xG X) + a0)]) cl_X12_sign wt_X12_sign km_X12_278 rfl rfl (Nat.le_trans (nle rfl : _ ≤ 4) (Nat.le_add_right 4 _)) (nle rfl) (nle rfl) dX12_readSum_8 hC18 ?_
    show S0 X _ s7 11 [some (.ref (gh (xG X) + a0)), some (.int p1)] [.int q16, .ref (gh (xG X) + a0)] _
    refine s_bind (fun q19 hq20 => ?_)
    have hC21 := t_X12_takes0 (l := xl X) (G := xG X) hq20
    refine s_callV (pc := 11) (As := [.int q16]) (st := []) (nlt rfl) (q := (RX12, TX12, 59)) rfl rfl o13 cl_X12_takes0 wi_X12_takes0 wl_X12_takes0 km_X12_240 rfl rfl (Nat.le_trans (nle rfl : _ ≤ 4) (Nat.le_add_right 4 _)) (nle rfl) (nle rfl) dX12_readSum_11 hC21 ?_
    have h22 := hC21.1 X
    have o23 := h22.ok o13
    show S0 X _ q19.1 14 [some (.ref (gh (xG X) + a0)), some (.int p1)] [.int q19.2] _
    refine s_join q19.1 (fun s25 : Mem => s25) 29 (fun s25 : Mem => [some (.ref (gh (xG X) + a0)), some (.int p1)]) (fun s25 : Mem => []) (fun s25 hs26 => ?_) (fun j24 hj27 => ?_)
    · show S0 X _ s25 29 [some (.ref (gh (xG X) + a0)), some (.int p1)] [] _
      have o28 := hs26.ok o23
      refine s_aload_n (pc := 29) 0 dX12_readSum_29 rfl rfl ?_
      refine s_iload_n (pc := 30) 1 dX12_readSum_30 rfl rfl ?_
      refine s_bind (fun q29 hq30 => ?_)
      have hC31 := hg_X12_readTerm X rfl rfl s25 a0 p1 q29 hq30
      refine s_callV (pc := 31) (As := [.int p1]) (st := []) (nlt rfl) (q := (RX12, TX12, 59)) rfl rfl o28 cl_X12_readTerm wi_X12_readTerm wl_X12_readTerm km_X12_282 rfl rfl (Nat.le_refl _) (nle rfl) (nle rfl) dX12_readSum_31 hC31 ?_
      have h32 := hC31.1 X
      have o33 := h32.ok o28
      show S0 X _ q29 34 [some (.ref (gh (xG X) + a0)), some (.int p1)] [] _
      refine s_goto (pc := 34) 5 dX12_readSum_34 rfl ?_
      exact s_drop (hT10 q29 (hs8.tr (h22.tr (hs26.tr h32)))) (And.intro rfl (And.intro rfl trivial))
    · refine s_ifne (pc := 14) 29 dX12_readSum_14 rfl ?_ ?_
      · exact s_drop (hj27 q19.1 Le.rf) (And.intro rfl (And.intro rfl trivial))
      · refine s_aload_n (pc := 17) 0 dX12_readSum_17 rfl rfl ?_
        refine s_bipush (pc := 18) 45 dX12_readSum_18 kb_45 ?_
        refine s_bind (fun q34 hq35 => ?_)
        have hC36 := t_X12_sign (l := xl X) (G := xG X) (M := q19.1) hq35
        refine s_callS (pc := 20) (As := [.int 45]) (st := [.ref (gh (xG X) + a0)]) cl_X12_sign wt_X12_sign km_X12_278 rfl rfl (Nat.le_trans (nle rfl : _ ≤ 4) (Nat.le_add_right 4 _)) (nle rfl) (nle rfl) dX12_readSum_20 hC36 ?_
        show S0 X _ q19.1 23 [some (.ref (gh (xG X) + a0)), some (.int p1)] [.int q34, .ref (gh (xG X) + a0)] _
        refine s_bind (fun q37 hq38 => ?_)
        have hC39 := t_X12_takes0 (l := xl X) (G := xG X) hq38
        refine s_callV (pc := 23) (As := [.int q34]) (st := []) (nlt rfl) (q := (RX12, TX12, 59)) rfl rfl o23 cl_X12_takes0 wi_X12_takes0 wl_X12_takes0 km_X12_240 rfl rfl (Nat.le_trans (nle rfl : _ ≤ 4) (Nat.le_add_right 4 _)) (nle rfl) (nle rfl) dX12_readSum_23 hC39 ?_
        have h40 := hC39.1 X
        have o41 := h40.ok o23
        show S0 X _ q37.1 26 [some (.ref (gh (xG X) + a0)), some (.int p1)] [.int q37.2] _
        refine s_ifeq (pc := 26) 37 dX12_readSum_26 rfl ?_ ?_
        · exact s_drop (hR12 q37.1 (hs8.tr (h22.tr h40))) trivial
        · exact s_drop (hj27 q37.1 h40) (And.intro rfl (And.intro rfl trivial))
set_option maxRecDepth 100000 in
set_option maxHeartbeats 8000000 in
noncomputable def b_X12_readTerm (g_X12_readPart : Mem → Nat → Int32 → Option Mem) (M : Mem) (a0 : Nat) (p1 : Int32) : Option Mem :=
  grd (okO M 12 a0) (Option.bind (g_X12_readPart M a0 p1) (fun q2 => Option.bind (loopO (σ := Mem) (ρ := Mem) (fun s7 => Option.bind (f_X12_sign 42) (fun q16 => Option.bind (f_X12_takes0 s7 a0 q16) (fun q19 => bv (fun (s25 : Mem) => Option.bind (g_X12_readPart s25 a0 p1) (fun q29 => some (.inl q29))) (fun j24 => if q19.2 = 0 then (Option.bind (f_X12_sign 47) (fun q34 => Option.bind (f_X12_takes0 q19.1 a0 q34) (fun q37 => if q37.2 = 0 then (Option.bind (f_X12_sign 37) (fun q42 => Option.bind (f_X12_takes0 q37.1 a0 q42) (fun q45 => if q45.2 = 0 then (some (.inr q45.1)) else (j24 q45.1)))) else (j24 q37.1)))) else (j24 q19.1))))) q2) (fun (x14 : Mem) => some x14)))
set_option maxRecDepth 100000 in
set_option maxHeartbeats 8000000 in
theorem t_X12_readTerm {d : Nat} {g_X12_readPart : Mem → Nat → Int32 → Option Mem} {l : Launch} {G : Gh} {M : Mem} {a0 : Nat} {p1 : Int32} {q : Mem} (hg_X12_readPart : ∀ X : Ctx, xG X = G → xl X = l → ∀ (M : Mem) (a0 : Nat) (p1 : Int32) (q : Mem), g_X12_readPart M a0 p1 = some q → Ctr (xl X) (xG X) yX12_readPart (Y_X12_readPart d) M [.ref (gh (xG X) + a0), .int p1] q (none)) (h : b_X12_readTerm g_X12_readPart M a0 p1 = some q) : Ctr l G yX12_readTerm (Y_X12_readTerm (d + 1)) M [.ref (gh G + a0), .int p1] q (none) := by
  refine Ctr.of (Y := (Y_X12_readTerm (d + 1))) (L := [some (.ref (gh G + a0)), some (.int p1)]) (t := Option.bind (b_X12_readTerm g_X12_readPart M a0 p1) (fun q => some (q, (none : Option Value)))) (by decide) rfl rfl (nle rfl) (Lof_in 0 _ rfl) (fun X hG hl => ?_) (by rw [h]; rfl)
  subst hG
  subst hl
  unfold b_X12_readTerm
  refine s_aload_n (pc := 0) 0 dX12_readTerm_0 rfl rfl ?_
  refine s_iload_n (pc := 1) 1 dX12_readTerm_1 rfl rfl ?_
  refine s_grd (fun o1 => ?_)
  refine s_bind (fun q2 hq3 => ?_)
  have hC4 := hg_X12_readPart X rfl rfl M a0 p1 q2 hq3
  refine s_callV (pc := 2) (As := [.int p1]) (st := []) (nlt rfl) (q := (RX12, TX12, 59)) rfl rfl o1 cl_X12_readPart wi_X12_readPart wl_X12_readPart km_X12_285 rfl rfl (Nat.le_refl _) (nle rfl) (nle rfl) dX12_readTerm_2 hC4 ?_
  have h5 := hC4.1 X
  have o6 := h5.ok o1
  show S0 X _ q2 5 [some (.ref (gh (xG X) + a0)), some (.int p1)] [] _
  refine s_drop (L' := [some (.ref (gh (xG X) + a0)), some (.int p1)]) ?_ (And.intro rfl (And.intro rfl trivial))
  refine s_loop1 q2 (fun s7 : Mem => s7) (fun s7 : Mem => [some (.ref (gh (xG X) + a0)), some (.int p1)]) (fun x14 : Mem => x14) 49 (fun x14 : Mem => [none, none]) (fun x14 hx15 => ?_) (fun T9 R11 hT10 hR12 s7 hs8 => ?_) q2 Le.rf
  · show S0 X _ x14 49 [none, none] [] _
    exact s_vret rfl dX12_readTerm_49
  · show S0 X _ s7 5 [some (.ref (gh (xG X) + a0)), some (.int p1)] [] _
    have o13 := hs8.ok o6
    refine s_aload_n (pc := 5) 0 dX12_readTerm_5 rfl rfl ?_
    refine s_bipush (pc := 6) 42 dX12_readTerm_6 kb_42 ?_
    refine s_bind (fun q16 hq17 => ?_)
    have hC18 := t_X12_sign (l := xl X) (G := xG X) (M := s7) hq17
    refine s_callS (pc := 8) (As := [.int 42]) (st := [.ref (gh (xG X) + a0)]) cl_X12_sign wt_X12_sign km_X12_278 rfl rfl (Nat.le_trans (nle rfl : _ ≤ 4) (Nat.le_add_right 4 _)) (nle rfl) (nle rfl) dX12_readTerm_8 hC18 ?_
    show S0 X _ s7 11 [some (.ref (gh (xG X) + a0)), some (.int p1)] [.int q16, .ref (gh (xG X) + a0)] _
    refine s_bind (fun q19 hq20 => ?_)
    have hC21 := t_X12_takes0 (l := xl X) (G := xG X) hq20
    refine s_callV (pc := 11) (As := [.int q16]) (st := []) (nlt rfl) (q := (RX12, TX12, 59)) rfl rfl o13 cl_X12_takes0 wi_X12_takes0 wl_X12_takes0 km_X12_240 rfl rfl (Nat.le_trans (nle rfl : _ ≤ 4) (Nat.le_add_right 4 _)) (nle rfl) (nle rfl) dX12_readTerm_11 hC21 ?_
    have h22 := hC21.1 X
    have o23 := h22.ok o13
    show S0 X _ q19.1 14 [some (.ref (gh (xG X) + a0)), some (.int p1)] [.int q19.2] _
    refine s_join q19.1 (fun s25 : Mem => s25) 41 (fun s25 : Mem => [some (.ref (gh (xG X) + a0)), some (.int p1)]) (fun s25 : Mem => []) (fun s25 hs26 => ?_) (fun j24 hj27 => ?_)
    · show S0 X _ s25 41 [some (.ref (gh (xG X) + a0)), some (.int p1)] [] _
      have o28 := hs26.ok o23
      refine s_aload_n (pc := 41) 0 dX12_readTerm_41 rfl rfl ?_
      refine s_iload_n (pc := 42) 1 dX12_readTerm_42 rfl rfl ?_
      refine s_bind (fun q29 hq30 => ?_)
      have hC31 := hg_X12_readPart X rfl rfl s25 a0 p1 q29 hq30
      refine s_callV (pc := 43) (As := [.int p1]) (st := []) (nlt rfl) (q := (RX12, TX12, 59)) rfl rfl o28 cl_X12_readPart wi_X12_readPart wl_X12_readPart km_X12_285 rfl rfl (Nat.le_refl _) (nle rfl) (nle rfl) dX12_readTerm_43 hC31 ?_
      have h32 := hC31.1 X
      have o33 := h32.ok o28
      show S0 X _ q29 46 [some (.ref (gh (xG X) + a0)), some (.int p1)] [] _
      refine s_goto (pc := 46) 5 dX12_readTerm_46 rfl ?_
      exact s_drop (hT10 q29 (hs8.tr (h22.tr (hs26.tr h32)))) (And.intro rfl (And.intro rfl trivial))
    · refine s_ifne (pc := 14) 41 dX12_readTerm_14 rfl ?_ ?_
      · exact s_drop (hj27 q19.1 Le.rf) (And.intro rfl (And.intro rfl trivial))
      · refine s_aload_n (pc := 17) 0 dX12_readTerm_17 rfl rfl ?_
        refine s_bipush (pc := 18) 47 dX12_readTerm_18 kb_47 ?_
        refine s_bind (fun q34 hq35 => ?_)
        have hC36 := t_X12_sign (l := xl X) (G := xG X) (M := q19.1) hq35
        refine s_callS (pc := 20) (As := [.int 47]) (st := [.ref (gh (xG X) + a0)]) cl_X12_sign wt_X12_sign km_X12_278 rfl rfl (Nat.le_trans (nle rfl : _ ≤ 4) (Nat.le_add_right 4 _)) (nle rfl) (nle rfl) dX12_readTerm_20 hC36 ?_
        show S0 X _ q19.1 23 [some (.ref (gh (xG X) + a0)), some (.int p1)] [.int q34, .ref (gh (xG X) + a0)] _
        refine s_bind (fun q37 hq38 => ?_)
        have hC39 := t_X12_takes0 (l := xl X) (G := xG X) hq38
        refine s_callV (pc := 23) (As := [.int q34]) (st := []) (nlt rfl) (q := (RX12, TX12, 59)) rfl rfl o23 cl_X12_takes0 wi_X12_takes0 wl_X12_takes0 km_X12_240 rfl rfl (Nat.le_trans (nle rfl : _ ≤ 4) (Nat.le_add_right 4 _)) (nle rfl) (nle rfl) dX12_readTerm_23 hC39 ?_
        have h40 := hC39.1 X
        have o41 := h40.ok o23
        show S0 X _ q37.1 26 [some (.ref (gh (xG X) + a0)), some (.int p1)] [.int q37.2] _
        refine s_ifne (pc := 26) 41 dX12_readTerm_26 rfl ?_ ?_
        · exact s_drop (hj27 q37.1 h40) (And.intro rfl (And.intro rfl trivial))
        · refine s_aload_n (pc := 29) 0 dX12_readTerm_29 rfl rfl ?_
          refine s_bipush (pc := 30) 37 dX12_readTerm_30 kb_37 ?_
          refine s_bind (fun q42 hq43 => ?_)
          have hC44 := t_X12_sign (l := xl X) (G := xG X) (M := q37.1) hq43
          refine s_callS (pc := 32) (As := [.int 37]) (st := [.ref (gh (xG X) + a0)]) cl_X12_sign wt_X12_sign km_X12_278 rfl rfl (Nat.le_trans (nle rfl : _ ≤ 4) (Nat.le_add_right 4 _)) (nle rfl) (nle rfl) dX12_readTerm_32 hC44 ?_
          show S0 X _ q37.1 35 [some (.ref (gh (xG X) + a0)), some (.int p1)] [.int q42, .ref (gh (xG X) + a0)] _
          refine s_bind (fun q45 hq46 => ?_)
          have hC47 := t_X12_takes0 (l := xl X) (G := xG X) hq46
          refine s_callV (pc := 35) (As := [.int q42]) (st := []) (nlt rfl) (q := (RX12, TX12, 59)) rfl rfl o41 cl_X12_takes0 wi_X12_takes0 wl_X12_takes0 km_X12_240 rfl rfl (Nat.le_trans (nle rfl : _ ≤ 4) (Nat.le_add_right 4 _)) (nle rfl) (nle rfl) dX12_readTerm_35 hC47 ?_
          have h48 := hC47.1 X
          have o49 := h48.ok o41
          show S0 X _ q45.1 38 [some (.ref (gh (xG X) + a0)), some (.int p1)] [.int q45.2] _
          refine s_ifeq (pc := 38) 49 dX12_readTerm_38 rfl ?_ ?_
          · exact s_drop (hR12 q45.1 (hs8.tr (h22.tr (h40.tr h48)))) trivial
          · exact s_drop (hj27 q45.1 (h40.tr h48)) (And.intro rfl (And.intro rfl trivial))
noncomputable def G_X12_readPart : Nat → (Mem → Nat → Int32 → Option Mem) × (Mem → Nat → Int32 → Option Mem) × (Mem → Nat → Int32 → Option Mem)
  | 0 => ((fun _ _ _ => none), (fun _ _ _ => none), (fun _ _ _ => none))
  | d + 1 => (b_X12_readPart ((G_X12_readPart d).2.1), b_X12_readSum ((G_X12_readPart d).2.2), b_X12_readTerm ((G_X12_readPart d).1))
noncomputable def f_X12_readPart (d : Nat) : Mem → Nat → Int32 → Option Mem := (G_X12_readPart d).1
noncomputable def f_X12_readSum (d : Nat) : Mem → Nat → Int32 → Option Mem := (G_X12_readPart d).2.1
noncomputable def f_X12_readTerm (d : Nat) : Mem → Nat → Int32 → Option Mem := (G_X12_readPart d).2.2
set_option maxRecDepth 100000 in
theorem tg_X12_readPart {l : Launch} {G : Gh} : ∀ d : Nat, (∀ (M : Mem) (a0 : Nat) (p1 : Int32) (q : Mem), f_X12_readPart d M a0 p1 = some q → Ctr l G yX12_readPart (Y_X12_readPart d) M [.ref (gh G + a0), .int p1] q (none)) ∧ (∀ (M : Mem) (a0 : Nat) (p1 : Int32) (q : Mem), f_X12_readSum d M a0 p1 = some q → Ctr l G yX12_readSum (Y_X12_readSum d) M [.ref (gh G + a0), .int p1] q (none)) ∧ (∀ (M : Mem) (a0 : Nat) (p1 : Int32) (q : Mem), f_X12_readTerm d M a0 p1 = some q → Ctr l G yX12_readTerm (Y_X12_readTerm d) M [.ref (gh G + a0), .int p1] q (none)) := by
  intro d
  induction d with
  | zero => refine ⟨?_, ?_, ?_⟩ <;> (intros; rename_i h; cases h)
  | succ d ih =>
    obtain ⟨h0, h1, h2⟩ := ih
    refine ⟨?_, ?_, ?_⟩
    · intro M a0 p1 q h
      exact t_X12_readPart (fun X hG hl => by subst hG; subst hl; exact h1) h
    · intro M a0 p1 q h
      exact t_X12_readSum (fun X hG hl => by subst hG; subst hl; exact h2) h
    · intro M a0 p1 q h
      exact t_X12_readTerm (fun X hG hl => by subst hG; subst hl; exact h0) h
set_option maxRecDepth 100000 in
theorem tf_X12_readPart {l : Launch} {G : Gh} {M : Mem} {a0 : Nat} {p1 : Int32} {q : Mem} (h : f_X12_readPart 100 M a0 p1 = some q) : Ctr l G yX12_readPart (Y_X12_readPart 100) M [.ref (gh G + a0), .int p1] q (none) := (tg_X12_readPart 100).1 _ _ _ _ h
set_option maxRecDepth 100000 in
theorem tf_X12_readSum {l : Launch} {G : Gh} {M : Mem} {a0 : Nat} {p1 : Int32} {q : Mem} (h : f_X12_readSum 100 M a0 p1 = some q) : Ctr l G yX12_readSum (Y_X12_readSum 100) M [.ref (gh G + a0), .int p1] q (none) := (tg_X12_readPart 100).2.1 _ _ _ _ h
set_option maxRecDepth 100000 in
theorem tf_X12_readTerm {l : Launch} {G : Gh} {M : Mem} {a0 : Nat} {p1 : Int32} {q : Mem} (h : f_X12_readTerm 100 M a0 p1 = some q) : Ctr l G yX12_readTerm (Y_X12_readTerm 100) M [.ref (gh G + a0), .int p1] q (none) := (tg_X12_readPart 100).2.2 _ _ _ _ h
