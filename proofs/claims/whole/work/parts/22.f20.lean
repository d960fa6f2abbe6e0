noncomputable def f_X11_row (M : Mem) (a0 : Nat) : Option (Mem × Int32) :=
  grd (okO M 11 a0) (Option.bind (mR M a0 2) (fun r2 => grd (okO M 7 r2) (if (mI M r2 4) = 0 then (Option.bind (f_X11_refuse M a0 (-6)) (fun q82 => some (q82.1, q82.2))) else (Option.bind (loopO (σ := Mem × Int32 × Int32 × Int32 × Int32) (ρ := Mem × Int32 × Int32) (fun s4 => Option.bind (mR s4.1 a0 2) (fun r13 => grd (okO s4.1 7 r13) (if (mI s4.1 r13 4) < s4.2.2.2.2 then (some (.inr (s4.1, s4.2.1, s4.2.2.1))) else (Option.bind (mR s4.1 a0 2) (fun r15 => grd (okO s4.1 7 r15) (Option.bind (f_X7_byteAt s4.1 r15 s4.2.2.2.2) (fun q17 => bv (fun (s21 : Mem × Int32 × Int32 × Int32) => bv (s4.2.2.2.2 + 1 : Int32) (fun x25 => some (.inl (s21.1, s21.2.1, s21.2.2.1, s21.2.2.2, x25)))) (fun j20 => if q17 = 0 then (bv (fun (s27 : Mem × Int32 × Int32) => bv (s4.2.2.2.2 + 1 : Int32) (fun x31 => j20 (s27.1, s27.2.1, s27.2.2, x31))) (fun j26 => if s4.2.2.2.2 ≤ s4.2.2.2.1 then (j26 (s4.1, s4.2.1, s4.2.2.1)) else (Option.bind (mR s4.1 a0 2) (fun r32 => grd (okO s4.1 7 r32) (Option.bind (f_X7_dishAt s4.1 r32 s4.2.2.2.1 s4.2.2.2.2) (fun q34 => bv (fun (s38 : Mem × Int32) => bv (fun (s43 : Int32) => bv (s4.2.1 + s43 : Int32) (fun x46 => bv (fun (s48 : Int32) => bv (s4.2.2.1 + s48 : Int32) (fun x51 => j26 (s38.1, x46, x51))) (fun j47 => if s38.2 = 0 then (j47 1) else (j47 0)))) (fun j42 => if s38.2 = 0 then (j42 0) else (j42 1))) (fun j37 => bv (fun (s53 : Mem) => j37 (s53, 0)) (fun j52 => if q34 = (-1) then (j52 s4.1) else (Option.bind (mR s4.1 a0 0) (fun r57 => Option.bind (mR s4.1 a0 0) (fun r58 => grd (okO s4.1 10 r58) (grd (okO s4.1 10 r57) (Option.bind (f_X10_add s4.1 r57 (-1) (mI s4.1 r58 11) q34) (fun q61 => if q61.2 < 0 then (j52 q61.1) else (j37 (q61.1, 1)))))))))))))))) else (j20 (s4.1, s4.2.1, s4.2.2.1, s4.2.2.2.1)))))))))) (M, 0, 0, 0, 0)) (fun (x11 : Mem × Int32 × Int32) => Option.bind (mR x11.1 a0 2) (fun r67 => grd (okO x11.1 7 r67) (bv (wI x11.1 r67 4 0) (fun M69 => bv (wI M69 a0 13 x11.2.2) (fun M73 => Option.bind (f_X11_accept M73 a0 x11.2.1) (fun q77 => some (q77.1, q77.2)))))))))))
abbrev Y_X11_row : Sta := (RX11, "row", cX11_row, 7, (some .int), 4)
set_option maxRecDepth 100000 in
set_option maxHeartbeats 8000000 in
theorem t_X11_row {l : Launch} {G : Gh} {M : Mem} {a0 : Nat} {q : Mem × Int32} (h : f_X11_row M a0 = some q) : Ctr l G yX11_row Y_X11_row M [.ref (gh G + a0)] q.1 (some (.int q.2)) := by
  refine Ctr.of (Y := Y_X11_row) (L := [some (.ref (gh G + a0)), none, none, none, none, none, none]) (t := Option.bind (f_X11_row M a0) (fun q => some (q.1, some (.int q.2)))) (by decide) rfl rfl (nle rfl) (Lof_in 6 _ rfl) (fun X hG hl => ?_) (by rw [h]; rfl)
  subst hG
  subst hl
  unfold f_X11_row
  refine s_aload_n (pc := 0) 0 dX11_row_0 rfl rfl ?_
  refine s_grd (fun o1 => ?_)
  refine s_geto (pc := 1) F_11 2 rfl o1 dX11_row_1 kf_X11_23 ?_
  refine s_rvB (fun r2 => ?_)
  refine s_grd (fun o3 => ?_)
  refine s_geti (pc := 4) F_7 4 rfl o3 dX11_row_4 kf_X11_176 ?_
  refine s_ifne (pc := 7) 17 dX11_row_7 rfl ?_ ?_
  · refine s_iconst (pc := 17) 0 dX11_row_17 kc_0 ?_
    refine s_istore_n (pc := 18) 1 dX11_row_18 rfl (nlt rfl) rfl (L' := [some (.ref (gh (xG X) + a0)), some (.int 0), none, none, none, none, none]) rfl ?_
    refine s_iconst (pc := 19) 0 dX11_row_19 kc_0 ?_
    refine s_istore_n (pc := 20) 2 dX11_row_20 rfl (nlt rfl) rfl (L' := [some (.ref (gh (xG X) + a0)), some (.int 0), some (.int 0), none, none, none, none]) rfl ?_
    refine s_iconst (pc := 21) 0 dX11_row_21 kc_0 ?_
    refine s_istore_n (pc := 22) 3 dX11_row_22 rfl (nlt rfl) rfl (L' := [some (.ref (gh (xG X) + a0)), some (.int 0), some (.int 0), some (.int 0), none, none, none]) rfl ?_
    refine s_iconst (pc := 23) 0 dX11_row_23 kc_0 ?_
    refine s_istore (pc := 24) dX11_row_24 (nlt rfl) rfl (L' := [some (.ref (gh (xG X) + a0)), some (.int 0), some (.int 0), some (.int 0), some (.int 0), none, none]) rfl ?_
    refine s_drop (L' := [some (.ref (gh (xG X) + a0)), some (.int 0), some (.int 0), some (.int 0), some (.int 0), none, none]) ?_ (And.intro rfl (And.intro rfl (And.intro rfl (And.intro rfl (And.intro rfl trivial)))))
    refine s_loop1 M (fun s4 : Mem × Int32 × Int32 × Int32 × Int32 => s4.1) (fun s4 : Mem × Int32 × Int32 × Int32 × Int32 => [some (.ref (gh (xG X) + a0)), some (.int s4.2.1), some (.int s4.2.2.1), some (.int s4.2.2.2.1), some (.int s4.2.2.2.2), none, none]) (fun x11 : Mem × Int32 × Int32 => x11.1) 141 (fun x11 : Mem × Int32 × Int32 => [some (.ref (gh (xG X) + a0)), some (.int x11.2.1), some (.int x11.2.2), none, none, none, none]) (fun x11 hx12 => ?_) (fun T6 R8 hT7 hR9 s4 hs5 => ?_) (M, 0, 0, 0, 0) Le.rf
    · show S0 X _ x11.1 141 [some (.ref (gh (xG X) + a0)), some (.int x11.2.1), some (.int x11.2.2), none, none, none, none] [] _
      have o66 := hx12.ok o1
      refine s_aload_n (pc := 141) 0 dX11_row_141 rfl rfl ?_
      refine s_geto (pc := 142) F_11 2 rfl o66 dX11_row_142 kf_X11_23 ?_
      refine s_rvB (fun r67 => ?_)
      refine s_iconst (pc := 145) 0 dX11_row_145 kc_0 ?_
      refine s_grd (fun o68 => ?_)
      refine s_puti (pc := 146) F_7 4 rfl o68 rfl rfl rfl dX11_row_146 kf_X11_176 (fun M69 hM70 => ?_)
      have h71 := le_wI hM70
      have o72 := h71.ok o66
      refine s_aload_n (pc := 149) 0 dX11_row_149 rfl rfl ?_
      refine s_iload_n (pc := 150) 2 dX11_row_150 rfl rfl ?_
      refine s_puti (pc := 151) F_11 13 rfl o72 rfl rfl rfl dX11_row_151 kf_X11_186 (fun M73 hM74 => ?_)
      have h75 := le_wI hM74
      have o76 := h75.ok o72
      refine s_aload_n (pc := 154) 0 dX11_row_154 rfl rfl ?_
      refine s_iload_n (pc := 155) 1 dX11_row_155 rfl rfl ?_
      refine s_bind (fun q77 hq78 => ?_)
      have hC79 := t_X11_accept (l := xl X) (G := xG X) hq78
      refine s_callV (pc := 156) (As := [.int x11.2.1]) (st := []) (nlt rfl) (q := (RX11, TX11, 16)) rfl rfl o76 cl_X11_accept wi_X11_accept wl_X11_accept km_X11_108 rfl rfl (nle rfl) (nle rfl) (nle rfl) dX11_row_156 hC79 ?_
      have h80 := hC79.1 X
      have o81 := h80.ok o76
      show S0 X _ q77.1 159 [some (.ref (gh (xG X) + a0)), some (.int x11.2.1), some (.int x11.2.2), none, none, none, none] [.int q77.2] _
      exact s_iret rfl dX11_row_159
    · show S0 X _ s4.1 26 [some (.ref (gh (xG X) + a0)), some (.int s4.2.1), some (.int s4.2.2.1), some (.int s4.2.2.2.1), some (.int s4.2.2.2.2), none, none] [] _
      have o10 := hs5.ok o1
      refine s_iload (pc := 26) dX11_row_26 rfl ?_
      refine s_aload_n (pc := 28) 0 dX11_row_28 rfl rfl ?_
      refine s_geto (pc := 29) F_11 2 rfl o10 dX11_row_29 kf_X11_23 ?_
      refine s_rvB (fun r13 => ?_)
      refine s_grd (fun o14 => ?_)
      refine s_geti (pc := 32) F_7 4 rfl o14 dX11_row_32 kf_X11_176 ?_
      refine s_icgt (pc := 35) 141 dX11_row_35 rfl ?_ ?_
      · exact s_drop (hR9 (s4.1, s4.2.1, s4.2.2.1) hs5) (And.intro rfl (And.intro rfl (And.intro rfl trivial)))
      · refine s_aload_n (pc := 38) 0 dX11_row_38 rfl rfl ?_
        refine s_geto (pc := 39) F_11 2 rfl o10 dX11_row_39 kf_X11_23 ?_
        refine s_rvB (fun r15 => ?_)
        refine s_iload (pc := 42) dX11_row_42 rfl ?_
        refine s_grd (fun o16 => ?_)
        refine s_bind (fun q17 hq18 => ?_)
        have hC19 := t_X7_byteAt (l := xl X) (G := xG X) hq18
        refine s_callV (pc := 44) (As := [.int s4.2.2.2.2]) (st := []) (nlt rfl) (q := (RX7, TX7, 10)) rfl rfl o16 cl_X7_byteAt wi_X7_byteAt wl_X7_byteAt km_X11_179 rfl rfl (nle rfl) (nle rfl) (nle rfl) dX11_row_44 hC19 ?_
        show S0 X _ s4.1 47 [some (.ref (gh (xG X) + a0)), some (.int s4.2.1), some (.int s4.2.2.1), some (.int s4.2.2.2.1), some (.int s4.2.2.2.2), none, none] [.int q17] _
        refine s_join s4.1 (fun s21 : Mem × Int32 × Int32 × Int32 => s21.1) 135 (fun s21 : Mem × Int32 × Int32 × Int32 => [some (.ref (gh (xG X) + a0)), some (.int s21.2.1), some (.int s21.2.2.1), some (.int s21.2.2.2), some (.int s4.2.2.2.2), none, none]) (fun s21 : Mem × Int32 × Int32 × Int32 => []) (fun s21 hs22 => ?_) (fun j20 hj23 => ?_)
        · show S0 X _ s21.1 135 [some (.ref (gh (xG X) + a0)), some (.int s21.2.1), some (.int s21.2.2.1), some (.int s21.2.2.2), some (.int s4.2.2.2.2), none, none] [] _
          have o24 := hs22.ok o10
          refine s_iinc (pc := 135) dX11_row_135 rfl (v := s4.2.2.2.2 + 1) (congrArg (fun z : Int32 => s4.2.2.2.2 + z) kc_1) (nlt rfl) rfl (L' := [some (.ref (gh (xG X) + a0)), some (.int s21.2.1), some (.int s21.2.2.1), some (.int s21.2.2.2), some (.int (s4.2.2.2.2 + 1)), none, none]) rfl ?_
          refine s_bv (fun x25 : Int32 => [some (.ref (gh (xG X) + a0)), some (.int s21.2.1), some (.int s21.2.2.1), some (.int s21.2.2.2), some (.int x25), none, none]) (fun x25 => ?_) rfl
          refine s_goto (pc := 138) 26 dX11_row_138 rfl ?_
          exact s_drop (hT7 (s21.1, s21.2.1, s21.2.2.1, s21.2.2.2, x25) (hs5.tr hs22)) (And.intro rfl (And.intro rfl (And.intro rfl (And.intro rfl (And.intro rfl trivial)))))
        · refine s_ifeq (pc := 47) 53 dX11_row_47 rfl ?_ ?_
          · refine s_iload (pc := 53) dX11_row_53 rfl ?_
            refine s_iload_n (pc := 55) 3 dX11_row_55 rfl rfl ?_
            refine s_join s4.1 (fun s27 : Mem × Int32 × Int32 => s27.1) 130 (fun s27 : Mem × Int32 × Int32 => [some (.ref (gh (xG X) + a0)), some (.int s27.2.1), some (.int s27.2.2), none, some (.int s4.2.2.2.2), none, none]) (fun s27 : Mem × Int32 × Int32 => []) (fun s27 hs28 => ?_) (fun j26 hj29 => ?_)
            · show S0 X _ s27.1 130 [some (.ref (gh (xG X) + a0)), some (.int s27.2.1), some (.int s27.2.2), none, some (.int s4.2.2.2.2), none, none] [] _
              have o30 := hs28.ok o10
              refine s_iload (pc := 130) dX11_row_130 rfl ?_
              refine s_iconst (pc := 132) 1 dX11_row_132 kc_1 ?_
              refine s_iadd (pc := 133) dX11_row_133 ?_
              refine s_istore_n (pc := 134) 3 dX11_row_134 rfl (nlt rfl) rfl (L' := [some (.ref (gh (xG X) + a0)), some (.int s27.2.1), some (.int s27.2.2), some (.int (s4.2.2.2.2 + 1)), some (.int s4.2.2.2.2), none, none]) rfl ?_
              refine s_bv (fun x31 : Int32 => [some (.ref (gh (xG X) + a0)), some (.int s27.2.1), some (.int s27.2.2), some (.int x31), some (.int s4.2.2.2.2), none, none]) (fun x31 => ?_) rfl
              exact s_drop (hj23 (s27.1, s27.2.1, s27.2.2, x31) hs28) (And.intro rfl (And.intro rfl (And.intro rfl (And.intro rfl (And.intro rfl trivial)))))
            · refine s_icle (pc := 56) 130 dX11_row_56 rfl ?_ ?_
              · exact s_drop (hj29 (s4.1, s4.2.1, s4.2.2.1) Le.rf) (And.intro rfl (And.intro rfl (And.intro rfl (And.intro rfl trivial))))
              · refine s_aload_n (pc := 59) 0 dX11_row_59 rfl rfl ?_
                refine s_geto (pc := 60) F_11 2 rfl o10 dX11_row_60 kf_X11_23 ?_
                refine s_rvB (fun r32 => ?_)
                refine s_iload_n (pc := 63) 3 dX11_row_63 rfl rfl ?_
                refine s_iload (pc := 64) dX11_row_64 rfl ?_
                refine s_grd (fun o33 => ?_)
                refine s_bind (fun q34 hq35 => ?_)
                have hC36 := t_X7_dishAt (l := xl X) (G := xG X) hq35
                refine s_callV (pc := 66) (As := [.int s4.2.2.2.1, .int s4.2.2.2.2]) (st := []) (nlt rfl) (q := (RX7, TX7, 10)) rfl rfl o33 cl_X7_dishAt wi_X7_dishAt wl_X7_dishAt km_X11_182 rfl rfl (nle rfl) (nle rfl) (nle rfl) dX11_row_66 hC36 ?_
                show S0 X _ s4.1 69 [some (.ref (gh (xG X) + a0)), some (.int s4.2.1), some (.int s4.2.2.1), some (.int s4.2.2.2.1), some (.int s4.2.2.2.2), none, none] [.int q34] _
                refine s_istore (pc := 69) dX11_row_69 (nlt rfl) rfl (L' := [some (.ref (gh (xG X) + a0)), some (.int s4.2.1), some (.int s4.2.2.1), some (.int s4.2.2.2.1), some (.int s4.2.2.2.2), some (.int q34), none]) rfl ?_
                refine s_iload (pc := 71) dX11_row_71 rfl ?_
                refine s_iconst (pc := 73) (-1) dX11_row_73 kc_m1 ?_
                refine s_join s4.1 (fun s38 : Mem × Int32 => s38.1) 102 (fun s38 : Mem × Int32 => [some (.ref (gh (xG X) + a0)), some (.int s4.2.1), some (.int s4.2.2.1), none, some (.int s4.2.2.2.2), none, none]) (fun s38 : Mem × Int32 => [.int s38.2]) (fun s38 hs39 => ?_) (fun j37 hj40 => ?_)
                · show S0 X _ s38.1 102 [some (.ref (gh (xG X) + a0)), some (.int s4.2.1), some (.int s4.2.2.1), none, some (.int s4.2.2.2.2), none, none] [.int s38.2] _
                  have o41 := hs39.ok o10
                  refine s_istore (pc := 102) dX11_row_102 (nlt rfl) rfl (L' := [some (.ref (gh (xG X) + a0)), some (.int s4.2.1), some (.int s4.2.2.1), none, some (.int s4.2.2.2.2), none, some (.int s38.2)]) rfl ?_
                  refine s_iload_n (pc := 104) 1 dX11_row_104 rfl rfl ?_
                  refine s_iload (pc := 105) dX11_row_105 rfl ?_
                  refine s_join s38.1 (fun s43 : Int32 => s38.1) 115 (fun s43 : Int32 => [some (.ref (gh (xG X) + a0)), none, some (.int s4.2.2.1), none, some (.int s4.2.2.2.2), none, some (.int s38.2)]) (fun s43 : Int32 => [.int s43, .int s4.2.1]) (fun s43 hs44 => ?_) (fun j42 hj45 => ?_)
                  · show S0 X _ s38.1 115 [some (.ref (gh (xG X) + a0)), none, some (.int s4.2.2.1), none, some (.int s4.2.2.2.2), none, some (.int s38.2)] [.int s43, .int s4.2.1] _
                    refine s_iadd (pc := 115) dX11_row_115 ?_
                    refine s_istore_n (pc := 116) 1 dX11_row_116 rfl (nlt rfl) rfl (L' := [some (.ref (gh (xG X) + a0)), some (.int (s4.2.1 + s43)), some (.int s4.2.2.1), none, some (.int s4.2.2.2.2), none, some (.int s38.2)]) rfl ?_
                    refine s_bv (fun x46 : Int32 => [some (.ref (gh (xG X) + a0)), some (.int x46), some (.int s4.2.2.1), none, some (.int s4.2.2.2.2), none, some (.int s38.2)]) (fun x46 => ?_) rfl
                    refine s_iload_n (pc := 117) 2 dX11_row_117 rfl rfl ?_
                    refine s_iload (pc := 118) dX11_row_118 rfl ?_
                    refine s_join s38.1 (fun s48 : Int32 => s38.1) 128 (fun s48 : Int32 => [some (.ref (gh (xG X) + a0)), some (.int x46), none, none, some (.int s4.2.2.2.2), none, none]) (fun s48 : Int32 => [.int s48, .int s4.2.2.1]) (fun s48 hs49 => ?_) (fun j47 hj50 => ?_)
                    · show S0 X _ s38.1 128 [some (.ref (gh (xG X) + a0)), some (.int x46), none, none, some (.int s4.2.2.2.2), none, none] [.int s48, .int s4.2.2.1] _
                      refine s_iadd (pc := 128) dX11_row_128 ?_
                      refine s_istore_n (pc := 129) 2 dX11_row_129 rfl (nlt rfl) rfl (L' := [some (.ref (gh (xG X) + a0)), some (.int x46), some (.int (s4.2.2.1 + s48)), none, some (.int s4.2.2.2.2), none, none]) rfl ?_
                      refine s_bv (fun x51 : Int32 => [some (.ref (gh (xG X) + a0)), some (.int x46), some (.int x51), none, some (.int s4.2.2.2.2), none, none]) (fun x51 => ?_) rfl
                      exact s_drop (hj29 (s38.1, x46, x51) hs39) (And.intro rfl (And.intro rfl (And.intro rfl (And.intro rfl trivial))))
                    · refine s_ifeq (pc := 120) 127 dX11_row_120 rfl ?_ ?_
                      · refine s_iconst (pc := 127) 1 dX11_row_127 kc_1 ?_
                        exact s_drop (hj50 1 Le.rf) (And.intro rfl (And.intro rfl (And.intro rfl trivial)))
                      · refine s_iconst (pc := 123) 0 dX11_row_123 kc_0 ?_
                        refine s_goto (pc := 124) 128 dX11_row_124 rfl ?_
                        exact s_drop (hj50 0 Le.rf) (And.intro rfl (And.intro rfl (And.intro rfl trivial)))
                  · refine s_ifeq (pc := 107) 114 dX11_row_107 rfl ?_ ?_
                    · refine s_iconst (pc := 114) 0 dX11_row_114 kc_0 ?_
                      exact s_drop (hj45 0 Le.rf) (And.intro rfl (And.intro rfl (And.intro rfl (And.intro rfl trivial))))
                    · refine s_iconst (pc := 110) 1 dX11_row_110 kc_1 ?_
                      refine s_goto (pc := 111) 115 dX11_row_111 rfl ?_
                      exact s_drop (hj45 1 Le.rf) (And.intro rfl (And.intro rfl (And.intro rfl (And.intro rfl trivial))))
                · refine s_join s4.1 (fun s53 : Mem => s53) 101 (fun s53 : Mem => [some (.ref (gh (xG X) + a0)), some (.int s4.2.1), some (.int s4.2.2.1), none, some (.int s4.2.2.2.2), none, none]) (fun s53 : Mem => []) (fun s53 hs54 => ?_) (fun j52 hj55 => ?_)
                  · show S0 X _ s53 101 [some (.ref (gh (xG X) + a0)), some (.int s4.2.1), some (.int s4.2.2.1), none, some (.int s4.2.2.2.2), none, none] [] _
                    have o56 := hs54.ok o10
                    refine s_iconst (pc := 101) 0 dX11_row_101 kc_0 ?_
                    exact s_drop (hj40 (s53, 0) hs54) (And.intro rfl (And.intro rfl (And.intro rfl (And.intro rfl trivial))))
                  · refine s_iceq (pc := 74) 101 dX11_row_74 rfl ?_ ?_
                    · exact s_drop (hj55 s4.1 Le.rf) (And.intro rfl (And.intro rfl (And.intro rfl (And.intro rfl trivial))))
                    · refine s_aload_n (pc := 77) 0 dX11_row_77 rfl rfl ?_
                      refine s_geto (pc := 78) F_11 0 rfl o10 dX11_row_78 kf_X11_10 ?_
                      refine s_rvB (fun r57 => ?_)
                      refine s_iconst (pc := 81) (-1) dX11_row_81 kc_m1 ?_
                      refine s_aload_n (pc := 82) 0 dX11_row_82 rfl rfl ?_
                      refine s_geto (pc := 83) F_11 0 rfl o10 dX11_row_83 kf_X11_10 ?_
                      refine s_rvB (fun r58 => ?_)
                      refine s_grd (fun o59 => ?_)
                      refine s_getiN (pc := 86) F_10 11 rfl o59 dX11_row_86 (List.mem_of_getElem? (i := 14) rfl) ?_
                      refine s_iload (pc := 89) dX11_row_89 rfl ?_
                      refine s_grd (fun o60 => ?_)
                      refine s_bind (fun q61 hq62 => ?_)
                      have hC63 := t_X10_add (l := xl X) (G := xG X) hq62
                      refine s_callV (pc := 91) (As := [.int (-1), .int (mI s4.1 r58 11), .int q34]) (st := []) (nlt rfl) (q := (RX10, TX10, 15)) rfl rfl o60 cl_X10_add wi_X10_add wl_X10_add km_X11_125 rfl rfl (nle rfl) (nle rfl) (nle rfl) dX11_row_91 hC63 ?_
                      have h64 := hC63.1 X
                      have o65 := h64.ok o10
                      show S0 X _ q61.1 94 [some (.ref (gh (xG X) + a0)), some (.int s4.2.1), some (.int s4.2.2.1), some (.int s4.2.2.2.1), some (.int s4.2.2.2.2), some (.int q34), none] [.int q61.2] _
                      refine s_iflt (pc := 94) 101 dX11_row_94 rfl ?_ ?_
                      · exact s_drop (hj55 q61.1 h64) (And.intro rfl (And.intro rfl (And.intro rfl (And.intro rfl trivial))))
                      · refine s_iconst (pc := 97) 1 dX11_row_97 kc_1 ?_
                        refine s_goto (pc := 98) 102 dX11_row_98 rfl ?_
                        exact s_drop (hj40 (q61.1, 1) h64) (And.intro rfl (And.intro rfl (And.intro rfl (And.intro rfl trivial))))
          · refine s_goto (pc := 50) 135 dX11_row_50 rfl ?_
            exact s_drop (hj23 (s4.1, s4.2.1, s4.2.2.1, s4.2.2.2.1) Le.rf) (And.intro rfl (And.intro rfl (And.intro rfl (And.intro rfl (And.intro rfl trivial)))))
  · refine s_aload_n (pc := 10) 0 dX11_row_10 rfl rfl ?_
    refine s_bipush (pc := 11) (-6) dX11_row_11 kb_m6 ?_
    refine s_bind (fun q82 hq83 => ?_)
    have hC84 := t_X11_refuse (l := xl X) (G := xG X) hq83
    refine s_callV (pc := 13) (As := [.int (-6)]) (st := []) (nlt rfl) (q := (RX11, TX11, 16)) rfl rfl o1 cl_X11_refuse wi_X11_refuse wl_X11_refuse km_X11_97 rfl rfl (nle rfl) (nle rfl) (nle rfl) dX11_row_13 hC84 ?_
    have h85 := hC84.1 X
    have o86 := h85.ok o1
    show S0 X _ q82.1 16 [some (.ref (gh (xG X) + a0)), none, none, none, none, none, none] [.int q82.2] _
    exact s_iret rfl dX11_row_16
noncomputable def b_X12_bothOf (g_X12_plainOf : Mem → Nat → Int32 → Option (Mem × Int32)) (M : Mem) (a0 : Nat) (x1 : Int32) : Option (Mem × Int32) :=
  grd (okO M 12 a0) (Option.bind (g_X12_plainOf M a0 x1) (fun q2 => Option.bind (loopO (σ := Mem × Int32) (ρ := Mem × Int32) (fun s7 => Option.bind (f_X12_passes0 s7.1 a0 5) (fun q16 => if q16.2 = 0 then (some (.inr (q16.1, s7.2))) else (bv (fun (s22 : Int32) => Option.bind (g_X12_plainOf q16.1 a0 s22) (fun q25 => bv (fun (s31 : Int32) => some (.inl (q25.1, s31))) (fun j30 => bv (fun (s35 : Unit) => j30 0) (fun j34 => if s7.2 = 0 then (j34 ()) else (if q25.2 = 0 then (j34 ()) else (j30 1)))))) (fun j21 => bv (fun (s39 : Unit) => j21 0) (fun j38 => if x1 = 0 then (j38 ()) else (if s7.2 = 0 then (j38 ()) else (j21 1))))))) (q2.1, q2.2)) (fun (x14 : Mem × Int32) => grd (bl x14.2) (some (x14.1, x14.2)))))
abbrev Y_X12_bothOf (d : Nat) : Sta := (RX12, "bothOf", cX12_bothOf, 4, (some .boolean), 4 + d)
set_option maxRecDepth 100000 in
set_option maxHeartbeats 8000000 in
theorem t_X12_bothOf {d : Nat} {g_X12_plainOf : Mem → Nat → Int32 → Option (Mem × Int32)} {l : Launch} {G : Gh} {M : Mem} {a0 : Nat} {x1 : Int32} {q : Mem × Int32} (hg_X12_plainOf : ∀ X : Ctx, xG X = G → xl X = l → ∀ (M : Mem) (a0 : Nat) (x1 : Int32) (q : Mem × Int32), g_X12_plainOf M a0 x1 = some q → Ctr (xl X) (xG X) yX12_plainOf (Y_X12_plainOf d) M [.ref (gh (xG X) + a0), .int x1] q.1 (some (.int q.2))) (h : b_X12_bothOf g_X12_plainOf M a0 x1 = some q) : Ctr l G yX12_bothOf (Y_X12_bothOf (d + 1)) M [.ref (gh G + a0), .int x1] q.1 (some (.int q.2)) := by
  refine Ctr.of (Y := (Y_X12_bothOf (d + 1))) (L := [some (.ref (gh G + a0)), some (.int x1), none, none]) (t := Option.bind (b_X12_bothOf g_X12_plainOf M a0 x1) (fun q => some (q.1, some (.int q.2)))) (by decide) rfl rfl (nle rfl) (Lof_in 2 _ rfl) (fun X hG hl => ?_) (by rw [h]; rfl)
  subst hG
  subst hl
  unfold b_X12_bothOf
  refine s_aload_n (pc := 0) 0 dX12_bothOf_0 rfl rfl ?_
  refine s_iload_n (pc := 1) 1 dX12_bothOf_1 rfl rfl ?_
  refine s_grd (fun o1 => ?_)
  refine s_bind (fun q2 hq3 => ?_)
  have hC4 := hg_X12_plainOf X rfl rfl M a0 x1 q2 hq3
  refine s_callV (pc := 2) (As := [.int x1]) (st := []) (nlt rfl) (q := (RX12, TX12, 59)) rfl rfl o1 cl_X12_plainOf wi_X12_plainOf wl_X12_plainOf km_X12_348 rfl rfl (Nat.le_refl _) (nle rfl) (nle rfl) dX12_bothOf_2 hC4 ?_
  have h5 := hC4.1 X
  have o6 := h5.ok o1
  show S0 X _ q2.1 5 [some (.ref (gh (xG X) + a0)), some (.int x1), none, none] [.int q2.2] _
  refine s_istore_n (pc := 5) 2 dX12_bothOf_5 rfl (nlt rfl) rfl (L' := [some (.ref (gh (xG X) + a0)), some (.int x1), some (.int q2.2), none]) rfl ?_
  refine s_drop (L' := [some (.ref (gh (xG X) + a0)), some (.int x1), some (.int q2.2), none]) ?_ (And.intro rfl (And.intro rfl (And.intro rfl trivial)))
  refine s_loop1 q2.1 (fun s7 : Mem × Int32 => s7.1) (fun s7 : Mem × Int32 => [some (.ref (gh (xG X) + a0)), some (.int x1), some (.int s7.2), none]) (fun x14 : Mem × Int32 => x14.1) 49 (fun x14 : Mem × Int32 => [none, none, some (.int x14.2), none]) (fun x14 hx15 => ?_) (fun T9 R11 hT10 hR12 s7 hs8 => ?_) (q2.1, q2.2) Le.rf
  · show S0 X _ x14.1 49 [none, none, some (.int x14.2), none] [] _
    refine s_iload_n (pc := 49) 2 dX12_bothOf_49 rfl rfl ?_
    refine s_grd (fun g42 => ?_)
    exact s_zret rfl g42 dX12_bothOf_50
  · show S0 X _ s7.1 6 [some (.ref (gh (xG X) + a0)), some (.int x1), some (.int s7.2), none] [] _
    have o13 := hs8.ok o6
    refine s_aload_n (pc := 6) 0 dX12_bothOf_6 rfl rfl ?_
    refine s_iconst (pc := 7) 5 dX12_bothOf_7 kc_5 ?_
    refine s_bind (fun q16 hq17 => ?_)
    have hC18 := t_X12_passes0 (l := xl X) (G := xG X) hq17
    refine s_callV (pc := 8) (As := [.int 5]) (st := []) (nlt rfl) (q := (RX12, TX12, 59)) rfl rfl o13 cl_X12_passes0 wi_X12_passes0 wl_X12_passes0 km_X12_333 rfl rfl (Nat.le_trans (nle rfl : _ ≤ 4) (Nat.le_add_right 4 _)) (nle rfl) (nle rfl) dX12_bothOf_8 hC18 ?_
    have h19 := hC18.1 X
    have o20 := h19.ok o13
    show S0 X _ q16.1 11 [some (.ref (gh (xG X) + a0)), some (.int x1), some (.int s7.2), none] [.int q16.2] _
    refine s_ifeq (pc := 11) 49 dX12_bothOf_11 rfl ?_ ?_
    · exact s_drop (hR12 (q16.1, s7.2) (hs8.tr h19)) (And.intro rfl trivial)
    · refine s_aload_n (pc := 14) 0 dX12_bothOf_14 rfl rfl ?_
      refine s_iload_n (pc := 15) 1 dX12_bothOf_15 rfl rfl ?_
      refine s_join q16.1 (fun s22 : Int32 => q16.1) 28 (fun s22 : Int32 => [some (.ref (gh (xG X) + a0)), some (.int x1), some (.int s7.2), none]) (fun s22 : Int32 => [.int s22, .ref (gh (xG X) + a0)]) (fun s22 hs23 => ?_) (fun j21 hj24 => ?_)
      · show S0 X _ q16.1 28 [some (.ref (gh (xG X) + a0)), some (.int x1), some (.int s7.2), none] [.int s22, .ref (gh (xG X) + a0)] _
        refine s_bind (fun q25 hq26 => ?_)
        have hC27 := hg_X12_plainOf X rfl rfl q16.1 a0 s22 q25 hq26
        refine s_callV (pc := 28) (As := [.int s22]) (st := []) (nlt rfl) (q := (RX12, TX12, 59)) rfl rfl o20 cl_X12_plainOf wi_X12_plainOf wl_X12_plainOf km_X12_348 rfl rfl (Nat.le_refl _) (nle rfl) (nle rfl) dX12_bothOf_28 hC27 ?_
        have h28 := hC27.1 X
        have o29 := h28.ok o20
        show S0 X _ q25.1 31 [some (.ref (gh (xG X) + a0)), some (.int x1), some (.int s7.2), none] [.int q25.2] _
        refine s_istore_n (pc := 31) 3 dX12_bothOf_31 rfl (nlt rfl) rfl (L' := [some (.ref (gh (xG X) + a0)), some (.int x1), some (.int s7.2), some (.int q25.2)]) rfl ?_
        refine s_iload_n (pc := 32) 2 dX12_bothOf_32 rfl rfl ?_
        refine s_join q25.1 (fun s31 : Int32 => q25.1) 45 (fun s31 : Int32 => [some (.ref (gh (xG X) + a0)), some (.int x1), none, none]) (fun s31 : Int32 => [.int s31]) (fun s31 hs32 => ?_) (fun j30 hj33 => ?_)
        · show S0 X _ q25.1 45 [some (.ref (gh (xG X) + a0)), some (.int x1), none, none] [.int s31] _
          refine s_istore_n (pc := 45) 2 dX12_bothOf_45 rfl (nlt rfl) rfl (L' := [some (.ref (gh (xG X) + a0)), some (.int x1), some (.int s31), none]) rfl ?_
          refine s_goto (pc := 46) 6 dX12_bothOf_46 rfl ?_
          exact s_drop (hT10 (q25.1, s31) (hs8.tr (h19.tr h28))) (And.intro rfl (And.intro rfl (And.intro rfl trivial)))
        · refine s_join q25.1 (fun s35 : Unit => q25.1) 44 (fun s35 : Unit => [some (.ref (gh (xG X) + a0)), some (.int x1), none, none]) (fun s35 : Unit => []) (fun s35 hs36 => ?_) (fun j34 hj37 => ?_)
          · show S0 X _ q25.1 44 [some (.ref (gh (xG X) + a0)), some (.int x1), none, none] [] _
            refine s_iconst (pc := 44) 0 dX12_bothOf_44 kc_0 ?_
            exact s_drop (hj33 0 Le.rf) (And.intro rfl (And.intro rfl trivial))
          · refine s_ifeq (pc := 33) 44 dX12_bothOf_33 rfl ?_ ?_
            · exact s_drop (hj37 () Le.rf) (And.intro rfl (And.intro rfl trivial))
            · refine s_iload_n (pc := 36) 3 dX12_bothOf_36 rfl rfl ?_
              refine s_ifeq (pc := 37) 44 dX12_bothOf_37 rfl ?_ ?_
              · exact s_drop (hj37 () Le.rf) (And.intro rfl (And.intro rfl trivial))
              · refine s_iconst (pc := 40) 1 dX12_bothOf_40 kc_1 ?_
                refine s_goto (pc := 41) 45 dX12_bothOf_41 rfl ?_
                exact s_drop (hj33 1 Le.rf) (And.intro rfl (And.intro rfl trivial))
      · refine s_join q16.1 (fun s39 : Unit => q16.1) 27 (fun s39 : Unit => [some (.ref (gh (xG X) + a0)), some (.int x1), some (.int s7.2), none]) (fun s39 : Unit => [.ref (gh (xG X) + a0)]) (fun s39 hs40 => ?_) (fun j38 hj41 => ?_)
        · show S0 X _ q16.1 27 [some (.ref (gh (xG X) + a0)), some (.int x1), some (.int s7.2), none] [.ref (gh (xG X) + a0)] _
          refine s_iconst (pc := 27) 0 dX12_bothOf_27 kc_0 ?_
          exact s_drop (hj24 0 Le.rf) (And.intro rfl (And.intro rfl (And.intro rfl trivial)))
        · refine s_ifeq (pc := 16) 27 dX12_bothOf_16 rfl ?_ ?_
          · exact s_drop (hj41 () Le.rf) (And.intro rfl (And.intro rfl (And.intro rfl trivial)))
          · refine s_iload_n (pc := 19) 2 dX12_bothOf_19 rfl rfl ?_
            refine s_ifeq (pc := 20) 27 dX12_bothOf_20 rfl ?_ ?_
            · exact s_drop (hj41 () Le.rf) (And.intro rfl (And.intro rfl (And.intro rfl trivial)))
            · refine s_iconst (pc := 23) 1 dX12_bothOf_23 kc_1 ?_
              refine s_goto (pc := 24) 28 dX12_bothOf_24 rfl ?_
              exact s_drop (hj24 1 Le.rf) (And.intro rfl (And.intro rfl (And.intro rfl trivial)))
noncomputable def b_X12_plainOf (g_X12_positiveOf : Mem → Nat → Int32 → Option (Mem × Int32)) (M : Mem) (a0 : Nat) (x1 : Int32) : Option (Mem × Int32) :=
  Option.bind (loopO (σ := Mem × Int32) (ρ := Mem × Int32) (fun s1 => grd (okO s1.1 12 a0) (Option.bind (f_X12_passes0 s1.1 a0 6) (fun q10 => if q10.2 = 0 then (some (.inr (q10.1, s1.2))) else (bv (fun (s16 : Int32) => some (.inl (q10.1, s16))) (fun j15 => if s1.2 = 0 then (j15 1) else (j15 0)))))) (M, 0)) (fun (x7 : Mem × Int32) => grd (okO x7.1 12 a0) (Option.bind (g_X12_positiveOf x7.1 a0 x1) (fun q20 => if q20.2 = x7.2 then (some (q20.1, 0)) else (some (q20.1, 1)))))
abbrev Y_X12_plainOf (d : Nat) : Sta := (RX12, "plainOf", cX12_plainOf, 3, (some .boolean), 4 + d)
set_option maxRecDepth 100000 in
set_option maxHeartbeats 8000000 in
theorem t_X12_plainOf {d : Nat} {g_X12_positiveOf : Mem → Nat → Int32 → Option (Mem × Int32)} {l : Launch} {G : Gh} {M : Mem} {a0 : Nat} {x1 : Int32} {q : Mem × Int32} (hg_X12_positiveOf : ∀ X : Ctx, xG X = G → xl X = l → ∀ (M : Mem) (a0 : Nat) (x1 : Int32) (q : Mem × Int32), g_X12_positiveOf M a0 x1 = some q → Ctr (xl X) (xG X) yX12_positiveOf (Y_X12_positiveOf d) M [.ref (gh (xG X) + a0), .int x1] q.1 (some (.int q.2))) (h : b_X12_plainOf g_X12_positiveOf M a0 x1 = some q) : Ctr l G yX12_plainOf (Y_X12_plainOf (d + 1)) M [.ref (gh G + a0), .int x1] q.1 (some (.int q.2)) := by
  refine Ctr.of (Y := (Y_X12_plainOf (d + 1))) (L := [some (.ref (gh G + a0)), some (.int x1), none]) (t := Option.bind (b_X12_plainOf g_X12_positiveOf M a0 x1) (fun q => some (q.1, some (.int q.2)))) (by decide) rfl rfl (nle rfl) (Lof_in 1 _ rfl) (fun X hG hl => ?_) (by rw [h]; rfl)
  subst hG
  subst hl
  unfold b_X12_plainOf
  refine s_iconst (pc := 0) 0 dX12_plainOf_0 kc_0 ?_
  refine s_istore_n (pc := 1) 2 dX12_plainOf_1 rfl (nlt rfl) rfl (L' := [some (.ref (gh (xG X) + a0)), some (.int x1), some (.int 0)]) rfl ?_
  refine s_drop (L' := [some (.ref (gh (xG X) + a0)), some (.int x1), some (.int 0)]) ?_ (And.intro rfl (And.intro rfl (And.intro rfl trivial)))
  refine s_loop1 M (fun s1 : Mem × Int32 => s1.1) (fun s1 : Mem × Int32 => [some (.ref (gh (xG X) + a0)), some (.int x1), some (.int s1.2)]) (fun x7 : Mem × Int32 => x7.1) 24 (fun x7 : Mem × Int32 => [some (.ref (gh (xG X) + a0)), some (.int x1), some (.int x7.2)]) (fun x7 hx8 => ?_) (fun T3 R5 hT4 hR6 s1 hs2 => ?_) (M, 0) Le.rf
  · show S0 X _ x7.1 24 [some (.ref (gh (xG X) + a0)), some (.int x1), some (.int x7.2)] [] _
    refine s_aload_n (pc := 24) 0 dX12_plainOf_24 rfl rfl ?_
    refine s_iload_n (pc := 25) 1 dX12_plainOf_25 rfl rfl ?_
    refine s_grd (fun o19 => ?_)
    refine s_bind (fun q20 hq21 => ?_)
    have hC22 := hg_X12_positiveOf X rfl rfl x7.1 a0 x1 q20 hq21
    refine s_callV (pc := 26) (As := [.int x1]) (st := []) (nlt rfl) (q := (RX12, TX12, 59)) rfl rfl o19 cl_X12_positiveOf wi_X12_positiveOf wl_X12_positiveOf km_X12_351 rfl rfl (Nat.le_refl _) (nle rfl) (nle rfl) dX12_plainOf_26 hC22 ?_
    have h23 := hC22.1 X
    have o24 := h23.ok o19
    show S0 X _ q20.1 29 [some (.ref (gh (xG X) + a0)), some (.int x1), some (.int x7.2)] [.int q20.2] _
    refine s_iload_n (pc := 29) 2 dX12_plainOf_29 rfl rfl ?_
    refine s_iceq (pc := 30) 37 dX12_plainOf_30 rfl ?_ ?_
    · refine s_iconst (pc := 37) 0 dX12_plainOf_37 kc_0 ?_
      exact s_zret rfl rfl dX12_plainOf_38
    · refine s_iconst (pc := 33) 1 dX12_plainOf_33 kc_1 ?_
      refine s_goto (pc := 34) 38 dX12_plainOf_34 rfl ?_
      exact s_zret rfl rfl dX12_plainOf_38
  · show S0 X _ s1.1 2 [some (.ref (gh (xG X) + a0)), some (.int x1), some (.int s1.2)] [] _
    refine s_aload_n (pc := 2) 0 dX12_plainOf_2 rfl rfl ?_
    refine s_bipush (pc := 3) 6 dX12_plainOf_3 kb_6 ?_
    refine s_grd (fun o9 => ?_)
    refine s_bind (fun q10 hq11 => ?_)
    have hC12 := t_X12_passes0 (l := xl X) (G := xG X) hq11
    refine s_callV (pc := 5) (As := [.int 6]) (st := []) (nlt rfl) (q := (RX12, TX12, 59)) rfl rfl o9 cl_X12_passes0 wi_X12_passes0 wl_X12_passes0 km_X12_333 rfl rfl (Nat.le_trans (nle rfl : _ ≤ 4) (Nat.le_add_right 4 _)) (nle rfl) (nle rfl) dX12_plainOf_5 hC12 ?_
    have h13 := hC12.1 X
    have o14 := h13.ok o9
    show S0 X _ q10.1 8 [some (.ref (gh (xG X) + a0)), some (.int x1), some (.int s1.2)] [.int q10.2] _
    refine s_ifeq (pc := 8) 24 dX12_plainOf_8 rfl ?_ ?_
    · exact s_drop (hR6 (q10.1, s1.2) (hs2.tr h13)) (And.intro rfl (And.intro rfl (And.intro rfl trivial)))
    · refine s_iload_n (pc := 11) 2 dX12_plainOf_11 rfl rfl ?_
      refine s_join q10.1 (fun s16 : Int32 => q10.1) 20 (fun s16 : Int32 => [some (.ref (gh (xG X) + a0)), some (.int x1), none]) (fun s16 : Int32 => [.int s16]) (fun s16 hs17 => ?_) (fun j15 hj18 => ?_)
      · show S0 X _ q10.1 20 [some (.ref (gh (xG X) + a0)), some (.int x1), none] [.int s16] _
        refine s_istore_n (pc := 20) 2 dX12_plainOf_20 rfl (nlt rfl) rfl (L' := [some (.ref (gh (xG X) + a0)), some (.int x1), some (.int s16)]) rfl ?_
        refine s_goto (pc := 21) 2 dX12_plainOf_21 rfl ?_
        exact s_drop (hT4 (q10.1, s16) (hs2.tr h13)) (And.intro rfl (And.intro rfl (And.intro rfl trivial)))
      · refine s_ifne (pc := 12) 19 dX12_plainOf_12 rfl ?_ ?_
        · refine s_iconst (pc := 19) 0 dX12_plainOf_19 kc_0 ?_
          exact s_drop (hj18 0 Le.rf) (And.intro rfl (And.intro rfl trivial))
        · refine s_iconst (pc := 15) 1 dX12_plainOf_15 kc_1 ?_
          refine s_goto (pc := 16) 20 dX12_plainOf_16 rfl ?_
          exact s_drop (hj18 1 Le.rf) (And.intro rfl (And.intro rfl trivial))
noncomputable def b_X12_positiveOf (g_X12_testOf : Mem → Nat → Int32 → Option (Mem × Int32)) (M : Mem) (a0 : Nat) (x1 : Int32) : Option (Mem × Int32) :=
  Option.bind (f_X12_sign 40) (fun q1 => grd (okO M 12 a0) (Option.bind (f_X12_passes0 M a0 q1) (fun q5 => if q5.2 = 0 then (Option.bind (f_X12_sumOf 100 q5.1 a0 x1) (fun q10 => Option.bind (f_X12_codeAt q10.1 a0 (mI q10.1 a0 26)) (fun q15 => bv (wI q10.1 a0 26 ((mI q10.1 a0 26) + 1)) (fun M18 => Option.bind (f_X12_sumOf 100 M18 a0 x1) (fun q22 => if x1 = 0 then (some (q22.1, 0)) else (if (mI q22.1 a0 28) = 0 then (Option.bind (f_X12_sign 60) (fun q27 => if q15 = q27 then (if 0 ≤ (lg_cmp q10.2 q22.2) then (some (q22.1, 0)) else (some (q22.1, 1))) else (Option.bind (f_X12_sign 62) (fun q30 => if q15 = q30 then (if (lg_cmp q10.2 q22.2) ≤ 0 then (some (q22.1, 0)) else (some (q22.1, 1))) else (if (lg_cmp q10.2 q22.2) = 0 then (some (q22.1, 1)) else (some (q22.1, 0))))))) else (some (q22.1, 0)))))))) else (Option.bind (g_X12_testOf q5.1 a0 x1) (fun q33 => bv (wI q33.1 a0 26 ((mI q33.1 a0 26) + 1)) (fun M38 => grd (bl q33.2) (some (M38, q33.2))))))))
abbrev Y_X12_positiveOf (d : Nat) : Sta := (RX12, "positiveOf", cX12_positiveOf, 7, (some .boolean), 4 + d)
set_option maxRecDepth 100000 in
set_option maxHeartbeats 8000000 in
theorem t_X12_positiveOf {d : Nat} {g_X12_testOf : Mem → Nat → Int32 → Option (Mem × Int32)} {l : Launch} {G : Gh} {M : Mem} {a0 : Nat} {x1 : Int32} {q : Mem × Int32} (hg_X12_testOf : ∀ X : Ctx, xG X = G → xl X = l → ∀ (M : Mem) (a0 : Nat) (x1 : Int32) (q : Mem × Int32), g_X12_testOf M a0 x1 = some q → Ctr (xl X) (xG X) yX12_testOf (Y_X12_testOf d) M [.ref (gh (xG X) + a0), .int x1] q.1 (some (.int q.2))) (h : b_X12_positiveOf g_X12_testOf M a0 x1 = some q) : Ctr l G yX12_positiveOf (Y_X12_positiveOf (d + 1)) M [.ref (gh G + a0), .int x1] q.1 (some (.int q.2)) := by
  refine Ctr.of (Y := (Y_X12_positiveOf (d + 1))) (L := [some (.ref (gh G + a0)), some (.int x1), none, none, none, none, none]) (t := Option.bind (b_X12_positiveOf g_X12_testOf M a0 x1) (fun q => some (q.1, some (.int q.2)))) (by decide) rfl rfl (nle rfl) (Lof_in 5 _ rfl) (fun X hG hl => ?_) (by rw [h]; rfl)
  subst hG
  subst hl
  unfold b_X12_positiveOf
  refine s_aload_n (pc := 0) 0 dX12_positiveOf_0 rfl rfl ?_
  refine s_bipush (pc := 1) 40 dX12_positiveOf_1 kb_40 ?_
  refine s_bind (fun q1 hq2 => ?_)
  have hC3 := t_X12_sign (l := xl X) (G := xG X) (M := M) hq2
  refine s_callS (pc := 3) (As := [.int 40]) (st := [.ref (gh (xG X) + a0)]) cl_X12_sign wt_X12_sign km_X12_278 rfl rfl (Nat.le_trans (nle rfl : _ ≤ 4) (Nat.le_add_right 4 _)) (nle rfl) (nle rfl) dX12_positiveOf_3 hC3 ?_
  show S0 X _ M 6 [some (.ref (gh (xG X) + a0)), some (.int x1), none, none, none, none, none] [.int q1, .ref (gh (xG X) + a0)] _
  refine s_grd (fun o4 => ?_)
  refine s_bind (fun q5 hq6 => ?_)
  have hC7 := t_X12_passes0 (l := xl X) (G := xG X) hq6
  refine s_callV (pc := 6) (As := [.int q1]) (st := []) (nlt rfl) (q := (RX12, TX12, 59)) rfl rfl o4 cl_X12_passes0 wi_X12_passes0 wl_X12_passes0 km_X12_333 rfl rfl (Nat.le_trans (nle rfl : _ ≤ 4) (Nat.le_add_right 4 _)) (nle rfl) (nle rfl) dX12_positiveOf_6 hC7 ?_
  have h8 := hC7.1 X
  have o9 := h8.ok o4
  show S0 X _ q5.1 9 [some (.ref (gh (xG X) + a0)), some (.int x1), none, none, none, none, none] [.int q5.2] _
  refine s_ifeq (pc := 9) 30 dX12_positiveOf_9 rfl ?_ ?_
  · refine s_aload_n (pc := 30) 0 dX12_positiveOf_30 rfl rfl ?_
    refine s_iload_n (pc := 31) 1 dX12_positiveOf_31 rfl rfl ?_
    refine s_bind (fun q10 hq11 => ?_)
    have hC12 := tf_X12_sumOf (l := xl X) (G := xG X) hq11
    refine s_callV (pc := 32) (As := [.int x1]) (st := []) (nlt rfl) (q := (RX12, TX12, 59)) rfl rfl o9 cl_X12_sumOf wi_X12_sumOf wl_X12_sumOf km_X12_336 rfl rfl (Nat.le_trans (nle rfl : _ ≤ 4) (Nat.le_add_right 4 _)) (nle rfl) (nle rfl) dX12_positiveOf_32 hC12 ?_
    have h13 := hC12.1 X
    have o14 := h13.ok o9
    show S0 X _ q10.1 35 [some (.ref (gh (xG X) + a0)), some (.int x1), none, none, none, none, none] [.long q10.2] _
    refine s_lstore_n (pc := 35) 2 dX12_positiveOf_35 rfl (nlt rfl) rfl (L' := [some (.ref (gh (xG X) + a0)), some (.int x1), some (.long q10.2), none, none, none, none]) rfl ?_
    refine s_aload_n (pc := 36) 0 dX12_positiveOf_36 rfl rfl ?_
    refine s_aload_n (pc := 37) 0 dX12_positiveOf_37 rfl rfl ?_
    refine s_geti (pc := 38) F_12 26 rfl o14 dX12_positiveOf_38 kf_X12_309 ?_
    refine s_bind (fun q15 hq16 => ?_)
    have hC17 := t_X12_codeAt (l := xl X) (G := xG X) hq16
    refine s_callV (pc := 41) (As := [.int (mI q10.1 a0 26)]) (st := []) (nlt rfl) (q := (RX12, TX12, 59)) rfl rfl o14 cl_X12_codeAt wi_X12_codeAt wl_X12_codeAt km_X12_312 rfl rfl (Nat.le_trans (nle rfl : _ ≤ 4) (Nat.le_add_right 4 _)) (nle rfl) (nle rfl) dX12_positiveOf_41 hC17 ?_
    show S0 X _ q10.1 44 [some (.ref (gh (xG X) + a0)), some (.int x1), some (.long q10.2), none, none, none, none] [.int q15] _
    refine s_istore (pc := 44) dX12_positiveOf_44 (nlt rfl) rfl (L' := [some (.ref (gh (xG X) + a0)), some (.int x1), some (.long q10.2), none, some (.int q15), none, none]) rfl ?_
    refine s_aload_n (pc := 46) 0 dX12_positiveOf_46 rfl rfl ?_
    refine s_dup (pc := 47) dX12_positiveOf_47 rfl ?_
    refine s_geti (pc := 48) F_12 26 rfl o14 dX12_positiveOf_48 kf_X12_309 ?_
    refine s_iconst (pc := 51) 1 dX12_positiveOf_51 kc_1 ?_
    refine s_iadd (pc := 52) dX12_positiveOf_52 ?_
    refine s_puti (pc := 53) F_12 26 rfl o14 rfl rfl rfl dX12_positiveOf_53 kf_X12_309 (fun M18 hM19 => ?_)
    have h20 := le_wI hM19
    have o21 := h20.ok o14
    refine s_aload_n (pc := 56) 0 dX12_positiveOf_56 rfl rfl ?_
    refine s_iload_n (pc := 57) 1 dX12_positiveOf_57 rfl rfl ?_
    refine s_bind (fun q22 hq23 => ?_)
    have hC24 := tf_X12_sumOf (l := xl X) (G := xG X) hq23
    refine s_callV (pc := 58) (As := [.int x1]) (st := []) (nlt rfl) (q := (RX12, TX12, 59)) rfl rfl o21 cl_X12_sumOf wi_X12_sumOf wl_X12_sumOf km_X12_336 rfl rfl (Nat.le_trans (nle rfl : _ ≤ 4) (Nat.le_add_right 4 _)) (nle rfl) (nle rfl) dX12_positiveOf_58 hC24 ?_
    have h25 := hC24.1 X
    have o26 := h25.ok o21
    show S0 X _ q22.1 61 [some (.ref (gh (xG X) + a0)), some (.int x1), some (.long q10.2), none, some (.int q15), none, none] [.long q22.2] _
    refine s_lstore (pc := 61) dX12_positiveOf_61 (nlt rfl) rfl (L' := [some (.ref (gh (xG X) + a0)), some (.int x1), some (.long q10.2), none, some (.int q15), some (.long q22.2), none]) rfl ?_
    refine s_iload_n (pc := 63) 1 dX12_positiveOf_63 rfl rfl ?_
    refine s_ifeq (pc := 64) 125 dX12_positiveOf_64 rfl ?_ ?_
    · refine s_iconst (pc := 125) 0 dX12_positiveOf_125 kc_0 ?_
      exact s_zret rfl rfl dX12_positiveOf_126
    · refine s_aload_n (pc := 67) 0 dX12_positiveOf_67 rfl rfl ?_
      refine s_geti (pc := 68) F_12 28 rfl o26 dX12_positiveOf_68 kf_X12_319 ?_
      refine s_ifne (pc := 71) 125 dX12_positiveOf_71 rfl ?_ ?_
      · refine s_iconst (pc := 125) 0 dX12_positiveOf_125 kc_0 ?_
        exact s_zret rfl rfl dX12_positiveOf_126
      · refine s_iload (pc := 74) dX12_positiveOf_74 rfl ?_
        refine s_bipush (pc := 76) 60 dX12_positiveOf_76 kb_60 ?_
        refine s_bind (fun q27 hq28 => ?_)
        have hC29 := t_X12_sign (l := xl X) (G := xG X) (M := q22.1) hq28
        refine s_callS (pc := 78) (As := [.int 60]) (st := [.int q15]) cl_X12_sign wt_X12_sign km_X12_278 rfl rfl (Nat.le_trans (nle rfl : _ ≤ 4) (Nat.le_add_right 4 _)) (nle rfl) (nle rfl) dX12_positiveOf_78 hC29 ?_
        show S0 X _ q22.1 81 [some (.ref (gh (xG X) + a0)), some (.int x1), some (.long q10.2), none, some (.int q15), some (.long q22.2), none] [.int q27, .int q15] _
        refine s_icne (pc := 81) 94 dX12_positiveOf_81 rfl ?_ ?_
        · refine s_iload (pc := 94) dX12_positiveOf_94 rfl ?_
          refine s_bipush (pc := 96) 62 dX12_positiveOf_96 kb_62 ?_
          refine s_bind (fun q30 hq31 => ?_)
          have hC32 := t_X12_sign (l := xl X) (G := xG X) (M := q22.1) hq31
          refine s_callS (pc := 98) (As := [.int 62]) (st := [.int q15]) cl_X12_sign wt_X12_sign km_X12_278 rfl rfl (Nat.le_trans (nle rfl : _ ≤ 4) (Nat.le_add_right 4 _)) (nle rfl) (nle rfl) dX12_positiveOf_98 hC32 ?_
          show S0 X _ q22.1 101 [some (.ref (gh (xG X) + a0)), some (.int x1), some (.long q10.2), none, some (.int q15), some (.long q22.2), none] [.int q30, .int q15] _
          refine s_icne (pc := 101) 114 dX12_positiveOf_101 rfl ?_ ?_
          · refine s_lload_n (pc := 114) 2 dX12_positiveOf_114 rfl rfl ?_
            refine s_lload (pc := 115) dX12_positiveOf_115 rfl ?_
            refine s_lcmp (pc := 117) dX12_positiveOf_117 ?_
            refine s_ifne (pc := 118) 125 dX12_positiveOf_118 rfl ?_ ?_
            · refine s_iconst (pc := 125) 0 dX12_positiveOf_125 kc_0 ?_
              exact s_zret rfl rfl dX12_positiveOf_126
            · refine s_iconst (pc := 121) 1 dX12_positiveOf_121 kc_1 ?_
              refine s_goto (pc := 122) 126 dX12_positiveOf_122 rfl ?_
              exact s_zret rfl rfl dX12_positiveOf_126
          · refine s_lload_n (pc := 104) 2 dX12_positiveOf_104 rfl rfl ?_
            refine s_lload (pc := 105) dX12_positiveOf_105 rfl ?_
            refine s_lcmp (pc := 107) dX12_positiveOf_107 ?_
            refine s_ifle (pc := 108) 125 dX12_positiveOf_108 rfl ?_ ?_
            · refine s_iconst (pc := 125) 0 dX12_positiveOf_125 kc_0 ?_
              exact s_zret rfl rfl dX12_positiveOf_126
            · refine s_goto (pc := 111) 121 dX12_positiveOf_111 rfl ?_
              refine s_iconst (pc := 121) 1 dX12_positiveOf_121 kc_1 ?_
              refine s_goto (pc := 122) 126 dX12_positiveOf_122 rfl ?_
              exact s_zret rfl rfl dX12_positiveOf_126
        · refine s_lload_n (pc := 84) 2 dX12_positiveOf_84 rfl rfl ?_
          refine s_lload (pc := 85) dX12_positiveOf_85 rfl ?_
          refine s_lcmp (pc := 87) dX12_positiveOf_87 ?_
          refine s_ifge (pc := 88) 125 dX12_positiveOf_88 rfl ?_ ?_
          · refine s_iconst (pc := 125) 0 dX12_positiveOf_125 kc_0 ?_
            exact s_zret rfl rfl dX12_positiveOf_126
          · refine s_goto (pc := 91) 121 dX12_positiveOf_91 rfl ?_
            refine s_iconst (pc := 121) 1 dX12_positiveOf_121 kc_1 ?_
            refine s_goto (pc := 122) 126 dX12_positiveOf_122 rfl ?_
            exact s_zret rfl rfl dX12_positiveOf_126
  · refine s_aload_n (pc := 12) 0 dX12_positiveOf_12 rfl rfl ?_
    refine s_iload_n (pc := 13) 1 dX12_positiveOf_13 rfl rfl ?_
    refine s_bind (fun q33 hq34 => ?_)
    have hC35 := hg_X12_testOf X rfl rfl q5.1 a0 x1 q33 hq34
    refine s_callV (pc := 14) (As := [.int x1]) (st := []) (nlt rfl) (q := (RX12, TX12, 59)) rfl rfl o9 cl_X12_testOf wi_X12_testOf wl_X12_testOf km_X12_354 rfl rfl (Nat.le_refl _) (nle rfl) (nle rfl) dX12_positiveOf_14 hC35 ?_
    have h36 := hC35.1 X
    have o37 := h36.ok o9
    show S0 X _ q33.1 17 [some (.ref (gh (xG X) + a0)), some (.int x1), none, none, none, none, none] [.int q33.2] _
    refine s_istore_n (pc := 17) 2 dX12_positiveOf_17 rfl (nlt rfl) rfl (L' := [some (.ref (gh (xG X) + a0)), some (.int x1), some (.int q33.2), none, none, none, none]) rfl ?_
    refine s_aload_n (pc := 18) 0 dX12_positiveOf_18 rfl rfl ?_
    refine s_dup (pc := 19) dX12_positiveOf_19 rfl ?_
    refine s_geti (pc := 20) F_12 26 rfl o37 dX12_positiveOf_20 kf_X12_309 ?_
    refine s_iconst (pc := 23) 1 dX12_positiveOf_23 kc_1 ?_
    refine s_iadd (pc := 24) dX12_positiveOf_24 ?_
    refine s_puti (pc := 25) F_12 26 rfl o37 rfl rfl rfl dX12_positiveOf_25 kf_X12_309 (fun M38 hM39 => ?_)
    have h40 := le_wI hM39
    have o41 := h40.ok o37
    refine s_iload_n (pc := 28) 2 dX12_positiveOf_28 rfl rfl ?_
    refine s_grd (fun g42 => ?_)
    exact s_zret rfl g42 dX12_positiveOf_29
noncomputable def b_X12_testOf (g_X12_bothOf : Mem → Nat → Int32 → Option (Mem × Int32)) (M : Mem) (a0 : Nat) (x1 : Int32) : Option (Mem × Int32) :=
  grd (okO M 12 a0) (Option.bind (g_X12_bothOf M a0 x1) (fun q2 => Option.bind (loopO (σ := Mem × Int32) (ρ := Mem × Int32) (fun s7 => Option.bind (f_X12_passes0 s7.1 a0 4) (fun q16 => if q16.2 = 0 then (some (.inr (q16.1, s7.2))) else (bv (fun (s22 : Int32) => Option.bind (g_X12_bothOf q16.1 a0 s22) (fun q25 => bv (fun (s31 : Int32) => some (.inl (q25.1, s31))) (fun j30 => bv (fun (s35 : Unit) => j30 1) (fun j34 => if s7.2 = 0 then (if q25.2 = 0 then (j30 0) else (j34 ())) else (j34 ()))))) (fun j21 => bv (fun (s39 : Unit) => j21 0) (fun j38 => if x1 = 0 then (j38 ()) else (if s7.2 = 0 then (j21 1) else (j38 ()))))))) (q2.1, q2.2)) (fun (x14 : Mem × Int32) => grd (bl x14.2) (some (x14.1, x14.2)))))
abbrev Y_X12_testOf (d : Nat) : Sta := (RX12, "testOf", cX12_testOf, 4, (some .boolean), 4 + d)
set_option maxRecDepth 100000 in
set_option maxHeartbeats 8000000 in
theorem t_X12_testOf {d : Nat} {g_X12_bothOf : Mem → Nat → Int32 → Option (Mem × Int32)} {l : Launch} {G : Gh} {M : Mem} {a0 : Nat} {x1 : Int32} {q : Mem × Int32} (hg_X12_bothOf : ∀ X : Ctx, xG X = G → xl X = l → ∀ (M : Mem) (a0 : Nat) (x1 : Int32) (q : Mem × Int32), g_X12_bothOf M a0 x1 = some q → Ctr (xl X) (xG X) yX12_bothOf (Y_X12_bothOf d) M [.ref (gh (xG X) + a0), .int x1] q.1 (some (.int q.2))) (h : b_X12_testOf g_X12_bothOf M a0 x1 = some q) : Ctr l G yX12_testOf (Y_X12_testOf (d + 1)) M [.ref (gh G + a0), .int x1] q.1 (some (.int q.2)) := by
  refine Ctr.of (Y := (Y_X12_testOf (d + 1))) (L := [some (.ref (gh G + a0)), some (.int x1), none, none]) (t := Option.bind (b_X12_testOf g_X12_bothOf M a0 x1) (fun q => some (q.1, some (.int q.2)))) (by decide) rfl rfl (nle rfl) (Lof_in 2 _ rfl) (fun X hG hl => ?_) (by rw [h]; rfl)
  subst hG
  subst hl
  unfold b_X12_testOf
  refine s_aload_n (pc := 0) 0 dX12_testOf_0 rfl rfl ?_
  refine s_iload_n (pc := 1) 1 dX12_testOf_1 rfl rfl ?_
  refine s_grd (fun o1 => ?_)
  refine s_bind (fun q2 hq3 => ?_)
  have hC4 := hg_X12_bothOf X rfl rfl M a0 x1 q2 hq3
  refine s_callV (pc := 2) (As := [.int x1]) (st := []) (nlt rfl) (q := (RX12, TX12, 59)) rfl rfl o1 cl_X12_bothOf wi_X12_bothOf wl_X12_bothOf km_X12_344 rfl rfl (Nat.le_refl _) (nle rfl) (nle rfl) dX12_testOf_2 hC4 ?_
  have h5 := hC4.1 X
  have o6 := h5.ok o1
  show S0 X _ q2.1 5 [some (.ref (gh (xG X) + a0)), some (.int x1), none, none] [.int q2.2] _
  refine s_istore_n (pc := 5) 2 dX12_testOf_5 rfl (nlt rfl) rfl (L' := [some (.ref (gh (xG X) + a0)), some (.int x1), some (.int q2.2), none]) rfl ?_
  refine s_drop (L' := [some (.ref (gh (xG X) + a0)), some (.int x1), some (.int q2.2), none]) ?_ (And.intro rfl (And.intro rfl (And.intro rfl trivial)))
  refine s_loop1 q2.1 (fun s7 : Mem × Int32 => s7.1) (fun s7 : Mem × Int32 => [some (.ref (gh (xG X) + a0)), some (.int x1), some (.int s7.2), none]) (fun x14 : Mem × Int32 => x14.1) 49 (fun x14 : Mem × Int32 => [none, none, some (.int x14.2), none]) (fun x14 hx15 => ?_) (fun T9 R11 hT10 hR12 s7 hs8 => ?_) (q2.1, q2.2) Le.rf
  · show S0 X _ x14.1 49 [none, none, some (.int x14.2), none] [] _
    refine s_iload_n (pc := 49) 2 dX12_testOf_49 rfl rfl ?_
    refine s_grd (fun g42 => ?_)
    exact s_zret rfl g42 dX12_testOf_50
  · show S0 X _ s7.1 6 [some (.ref (gh (xG X) + a0)), some (.int x1), some (.int s7.2), none] [] _
    have o13 := hs8.ok o6
    refine s_aload_n (pc := 6) 0 dX12_testOf_6 rfl rfl ?_
    refine s_iconst (pc := 7) 4 dX12_testOf_7 kc_4 ?_
    refine s_bind (fun q16 hq17 => ?_)
    have hC18 := t_X12_passes0 (l := xl X) (G := xG X) hq17
    refine s_callV (pc := 8) (As := [.int 4]) (st := []) (nlt rfl) (q := (RX12, TX12, 59)) rfl rfl o13 cl_X12_passes0 wi_X12_passes0 wl_X12_passes0 km_X12_333 rfl rfl (Nat.le_trans (nle rfl : _ ≤ 4) (Nat.le_add_right 4 _)) (nle rfl) (nle rfl) dX12_testOf_8 hC18 ?_
    have h19 := hC18.1 X
    have o20 := h19.ok o13
    show S0 X _ q16.1 11 [some (.ref (gh (xG X) + a0)), some (.int x1), some (.int s7.2), none] [.int q16.2] _
    refine s_ifeq (pc := 11) 49 dX12_testOf_11 rfl ?_ ?_
    · exact s_drop (hR12 (q16.1, s7.2) (hs8.tr h19)) (And.intro rfl trivial)
    · refine s_aload_n (pc := 14) 0 dX12_testOf_14 rfl rfl ?_
      refine s_iload_n (pc := 15) 1 dX12_testOf_15 rfl rfl ?_
      refine s_join q16.1 (fun s22 : Int32 => q16.1) 28 (fun s22 : Int32 => [some (.ref (gh (xG X) + a0)), some (.int x1), some (.int s7.2), none]) (fun s22 : Int32 => [.int s22, .ref (gh (xG X) + a0)]) (fun s22 hs23 => ?_) (fun j21 hj24 => ?_)
      · show S0 X _ q16.1 28 [some (.ref (gh (xG X) + a0)), some (.int x1), some (.int s7.2), none] [.int s22, .ref (gh (xG X) + a0)] _
        refine s_bind (fun q25 hq26 => ?_)
        have hC27 := hg_X12_bothOf X rfl rfl q16.1 a0 s22 q25 hq26
        refine s_callV (pc := 28) (As := [.int s22]) (st := []) (nlt rfl) (q := (RX12, TX12, 59)) rfl rfl o20 cl_X12_bothOf wi_X12_bothOf wl_X12_bothOf km_X12_344 rfl rfl (Nat.le_refl _) (nle rfl) (nle rfl) dX12_testOf_28 hC27 ?_
        have h28 := hC27.1 X
        have o29 := h28.ok o20
        show S0 X _ q25.1 31 [some (.ref (gh (xG X) + a0)), some (.int x1), some (.int s7.2), none] [.int q25.2] _
        refine s_istore_n (pc := 31) 3 dX12_testOf_31 rfl (nlt rfl) rfl (L' := [some (.ref (gh (xG X) + a0)), some (.int x1), some (.int s7.2), some (.int q25.2)]) rfl ?_
        refine s_iload_n (pc := 32) 2 dX12_testOf_32 rfl rfl ?_
        refine s_join q25.1 (fun s31 : Int32 => q25.1) 45 (fun s31 : Int32 => [some (.ref (gh (xG X) + a0)), some (.int x1), none, none]) (fun s31 : Int32 => [.int s31]) (fun s31 hs32 => ?_) (fun j30 hj33 => ?_)
        · show S0 X _ q25.1 45 [some (.ref (gh (xG X) + a0)), some (.int x1), none, none] [.int s31] _
          refine s_istore_n (pc := 45) 2 dX12_testOf_45 rfl (nlt rfl) rfl (L' := [some (.ref (gh (xG X) + a0)), some (.int x1), some (.int s31), none]) rfl ?_
          refine s_goto (pc := 46) 6 dX12_testOf_46 rfl ?_
          exact s_drop (hT10 (q25.1, s31) (hs8.tr (h19.tr h28))) (And.intro rfl (And.intro rfl (And.intro rfl trivial)))
        · refine s_join q25.1 (fun s35 : Unit => q25.1) 40 (fun s35 : Unit => [some (.ref (gh (xG X) + a0)), some (.int x1), none, none]) (fun s35 : Unit => []) (fun s35 hs36 => ?_) (fun j34 hj37 => ?_)
          · show S0 X _ q25.1 40 [some (.ref (gh (xG X) + a0)), some (.int x1), none, none] [] _
            refine s_iconst (pc := 40) 1 dX12_testOf_40 kc_1 ?_
            refine s_goto (pc := 41) 45 dX12_testOf_41 rfl ?_
            exact s_drop (hj33 1 Le.rf) (And.intro rfl (And.intro rfl trivial))
          · refine s_ifne (pc := 33) 40 dX12_testOf_33 rfl ?_ ?_
            · exact s_drop (hj37 () Le.rf) (And.intro rfl (And.intro rfl trivial))
            · refine s_iload_n (pc := 36) 3 dX12_testOf_36 rfl rfl ?_
              refine s_ifeq (pc := 37) 44 dX12_testOf_37 rfl ?_ ?_
              · refine s_iconst (pc := 44) 0 dX12_testOf_44 kc_0 ?_
                exact s_drop (hj33 0 Le.rf) (And.intro rfl (And.intro rfl trivial))
              · exact s_drop (hj37 () Le.rf) (And.intro rfl (And.intro rfl trivial))
      · refine s_join q16.1 (fun s39 : Unit => q16.1) 27 (fun s39 : Unit => [some (.ref (gh (xG X) + a0)), some (.int x1), some (.int s7.2), none]) (fun s39 : Unit => [.ref (gh (xG X) + a0)]) (fun s39 hs40 => ?_) (fun j38 hj41 => ?_)
        · show S0 X _ q16.1 27 [some (.ref (gh (xG X) + a0)), some (.int x1), some (.int s7.2), none] [.ref (gh (xG X) + a0)] _
          refine s_iconst (pc := 27) 0 dX12_testOf_27 kc_0 ?_
          exact s_drop (hj24 0 Le.rf) (And.intro rfl (And.intro rfl (And.intro rfl trivial)))
        · refine s_ifeq (pc := 16) 27 dX12_testOf_16 rfl ?_ ?_
          · exact s_drop (hj41 () Le.rf) (And.intro rfl (And.intro rfl (And.intro rfl trivial)))
          · refine s_iload_n (pc := 19) 2 dX12_testOf_19 rfl rfl ?_
            refine s_ifne (pc := 20) 27 dX12_testOf_20 rfl ?_ ?_
            · exact s_drop (hj41 () Le.rf) (And.intro rfl (And.intro rfl (And.intro rfl trivial)))
            · refine s_iconst (pc := 23) 1 dX12_testOf_23 kc_1 ?_
              refine s_goto (pc := 24) 28 dX12_testOf_24 rfl ?_
              exact s_drop (hj24 1 Le.rf) (And.intro rfl (And.intro rfl (And.intro rfl trivial)))
noncomputable def G_X12_bothOf : Nat → (Mem → Nat → Int32 → Option (Mem × Int32)) × (Mem → Nat → Int32 → Option (Mem × Int32)) × (Mem → Nat → Int32 → Option (Mem × Int32)) × (Mem → Nat → Int32 → Option (Mem × Int32))
  | 0 => ((fun _ _ _ => none), (fun _ _ _ => none), (fun _ _ _ => none), (fun _ _ _ => none))
  | d + 1 => (b_X12_bothOf ((G_X12_bothOf d).2.1), b_X12_plainOf ((G_X12_bothOf d).2.2.1), b_X12_positiveOf ((G_X12_bothOf d).2.2.2), b_X12_testOf ((G_X12_bothOf d).1))
noncomputable def f_X12_bothOf (d : Nat) : Mem → Nat → Int32 → Option (Mem × Int32) := (G_X12_bothOf d).1
noncomputable def f_X12_plainOf (d : Nat) : Mem → Nat → Int32 → Option (Mem × Int32) := (G_X12_bothOf d).2.1
noncomputable def f_X12_positiveOf (d : Nat) : Mem → Nat → Int32 → Option (Mem × Int32) := (G_X12_bothOf d).2.2.1
noncomputable def f_X12_testOf (d : Nat) : Mem → Nat → Int32 → Option (Mem × Int32) := (G_X12_bothOf d).2.2.2
theorem tg_X12_bothOf {l : Launch} {G : Gh} : ∀ d : Nat, (∀ (M : Mem) (a0 : Nat) (x1 : Int32) (q : Mem × Int32), f_X12_bothOf d M a0 x1 = some q → Ctr l G yX12_bothOf (Y_X12_bothOf d) M [.ref (gh G + a0), .int x1] q.1 (some (.int q.2))) ∧ (∀ (M : Mem) (a0 : Nat) (x1 : Int32) (q : Mem × Int32), f_X12_plainOf d M a0 x1 = some q → Ctr l G yX12_plainOf (Y_X12_plainOf d) M [.ref (gh G + a0), .int x1] q.1 (some (.int q.2))) ∧ (∀ (M : Mem) (a0 : Nat) (x1 : Int32) (q : Mem × Int32), f_X12_positiveOf d M a0 x1 = some q → Ctr l G yX12_positiveOf (Y_X12_positiveOf d) M [.ref (gh G + a0), .int x1] q.1 (some (.int q.2))) ∧ (∀ (M : Mem) (a0 : Nat) (x1 : Int32) (q : Mem × Int32), f_X12_testOf d M a0 x1 = some q → Ctr l G yX12_testOf (Y_X12_testOf d) M [.ref (gh G + a0), .int x1] q.1 (some (.int q.2))) := by
  intro d
  induction d with
  | zero => refine ⟨?_, ?_, ?_, ?_⟩ <;> (intros; rename_i h; cases h)
  | succ d ih =>
    obtain ⟨h0, h1, h2, h3⟩ := ih
    refine ⟨?_, ?_, ?_, ?_⟩
    · intro M a0 x1 q h
      exact t_X12_bothOf (fun X hG hl => by subst hG; subst hl; exact h1) h
    · intro M a0 x1 q h
      exact t_X12_plainOf (fun X hG hl => by subst hG; subst hl; exact h2) h
    · intro M a0 x1 q h
      exact t_X12_positiveOf (fun X hG hl => by subst hG; subst hl; exact h3) h
    · intro M a0 x1 q h
      exact t_X12_testOf (fun X hG hl => by subst hG; subst hl; exact h0) h
theorem tf_X12_bothOf {l : Launch} {G : Gh} {M : Mem} {a0 : Nat} {x1 : Int32} {q : Mem × Int32} (h : f_X12_bothOf 100 M a0 x1 = some q) : Ctr l G yX12_bothOf (Y_X12_bothOf 100) M [.ref (gh G + a0), .int x1] q.1 (some (.int q.2)) := (tg_X12_bothOf 100).1 _ _ _ _ h
theorem tf_X12_plainOf {l : Launch} {G : Gh} {M : Mem} {a0 : Nat} {x1 : Int32} {q : Mem × Int32} (h : f_X12_plainOf 100 M a0 x1 = some q) : Ctr l G yX12_plainOf (Y_X12_plainOf 100) M [.ref (gh G + a0), .int x1] q.1 (some (.int q.2)) := (tg_X12_bothOf 100).2.1 _ _ _ _ h
theorem tf_X12_positiveOf {l : Launch} {G : Gh} {M : Mem} {a0 : Nat} {x1 : Int32} {q : Mem × Int32} (h : f_X12_positiveOf 100 M a0 x1 = some q) : Ctr l G yX12_positiveOf (Y_X12_positiveOf 100) M [.ref (gh G + a0), .int x1] q.1 (some (.int q.2)) := (tg_X12_bothOf 100).2.2.1 _ _ _ _ h
theorem tf_X12_testOf {l : Launch} {G : Gh} {M : Mem} {a0 : Nat} {x1 : Int32} {q : Mem × Int32} (h : f_X12_testOf 100 M a0 x1 = some q) : Ctr l G yX12_testOf (Y_X12_testOf 100) M [.ref (gh G + a0), .int x1] q.1 (some (.int q.2)) := (tg_X12_bothOf 100).2.2.2 _ _ _ _ h
noncomputable def f_X12_house (M : Mem) (a0 : Nat) (x1 : Int32) (x2 : Int32) (x3 : Int32) : Option (Mem × Int32) :=
  grd (okO M 12 a0) (Option.bind (f_X12_whyNot M a0 x1 x2 x3) (fun q2 => if 0 ≤ q2 then (Option.bind (f_X12_adds M a0 x1 x2 x3) (fun q5 => Option.bind (mR q5 a0 3) (fun r10 => grd (okO q5 14 r10) (grd (vp_in 56 (mL q5 r10)) (Option.bind (f_X12_good q5 a0 ((mI q5 r10 (56 : Int32).toNatClampNeg) - 1)) (fun q13 => some (q13.1, q13.2))))))) else (Option.bind (f_X12_refuses M a0 q2) (fun q18 => some (q18.1, q18.2)))))
abbrev Y_X12_house : Sta := (RX12, "house", cX12_house, 5, (some .int), 4)
set_option maxRecDepth 100000 in
set_option maxHeartbeats 8000000 in
theorem t_X12_house {l : Launch} {G : Gh} {M : Mem} {a0 : Nat} {x1 : Int32} {x2 : Int32} {x3 : Int32} {q : Mem × Int32} (h : f_X12_house M a0 x1 x2 x3 = some q) : Ctr l G yX12_house Y_X12_house M [.ref (gh G + a0), .int x1, .int x2, .int x3] q.1 (some (.int q.2)) := by
  refine Ctr.of (Y := Y_X12_house) (L := [some (.ref (gh G + a0)), some (.int x1), some (.int x2), some (.int x3), none]) (t := Option.bind (f_X12_house M a0 x1 x2 x3) (fun q => some (q.1, some (.int q.2)))) (by decide) rfl rfl (nle rfl) (Lof_in 1 _ rfl) (fun X hG hl => ?_) (by rw [h]; rfl)
  subst hG
  subst hl
  unfold f_X12_house
  refine s_aload_n (pc := 0) 0 dX12_house_0 rfl rfl ?_
  refine s_iload_n (pc := 1) 1 dX12_house_1 rfl rfl ?_
  refine s_iload_n (pc := 2) 2 dX12_house_2 rfl rfl ?_
  refine s_iload_n (pc := 3) 3 dX12_house_3 rfl rfl ?_
  refine s_grd (fun o1 => ?_)
  refine s_bind (fun q2 hq3 => ?_)
  have hC4 := t_X12_whyNot (l := xl X) (G := xG X) hq3
  refine s_callV (pc := 4) (As := [.int x1, .int x2, .int x3]) (st := []) (nlt rfl) (q := (RX12, TX12, 59)) rfl rfl o1 cl_X12_whyNot wi_X12_whyNot wl_X12_whyNot km_X12_197 rfl rfl (nle rfl) (nle rfl) (nle rfl) dX12_house_4 hC4 ?_
  show S0 X _ M 7 [some (.ref (gh (xG X) + a0)), some (.int x1), some (.int x2), some (.int x3), none] [.int q2] _
  refine s_istore (pc := 7) dX12_house_7 (nlt rfl) rfl (L' := [some (.ref (gh (xG X) + a0)), some (.int x1), some (.int x2), some (.int x3), some (.int q2)]) rfl ?_
  refine s_iload (pc := 9) dX12_house_9 rfl ?_
  refine s_ifge (pc := 11) 21 dX12_house_11 rfl ?_ ?_
  · refine s_aload_n (pc := 21) 0 dX12_house_21 rfl rfl ?_
    refine s_iload_n (pc := 22) 1 dX12_house_22 rfl rfl ?_
    refine s_iload_n (pc := 23) 2 dX12_house_23 rfl rfl ?_
    refine s_iload_n (pc := 24) 3 dX12_house_24 rfl rfl ?_
    refine s_bind (fun q5 hq6 => ?_)
    have hC7 := t_X12_adds (l := xl X) (G := xG X) hq6
    refine s_callV (pc := 25) (As := [.int x1, .int x2, .int x3]) (st := []) (nlt rfl) (q := (RX12, TX12, 59)) rfl rfl o1 cl_X12_adds wi_X12_adds wl_X12_adds km_X12_201 rfl rfl (nle rfl) (nle rfl) (nle rfl) dX12_house_25 hC7 ?_
    have h8 := hC7.1 X
    have o9 := h8.ok o1
    show S0 X _ q5 28 [some (.ref (gh (xG X) + a0)), some (.int x1), some (.int x2), some (.int x3), some (.int q2)] [] _
    refine s_aload_n (pc := 28) 0 dX12_house_28 rfl rfl ?_
    refine s_aload_n (pc := 29) 0 dX12_house_29 rfl rfl ?_
    refine s_geto (pc := 30) F_12 3 rfl o9 dX12_house_30 kf_X12_20 ?_
    refine s_rvB (fun r10 => ?_)
    refine s_bipush (pc := 33) 56 dX12_house_33 kb_56 ?_
    refine s_grd (fun o11 => ?_)
    refine s_grd (fun i12 => ?_)
    refine s_iald (pc := 35) o11 i12 dX12_house_35 ?_
    refine s_iconst (pc := 36) 1 dX12_house_36 kc_1 ?_
    refine s_isub (pc := 37) dX12_house_37 ?_
    refine s_bind (fun q13 hq14 => ?_)
    have hC15 := t_X12_good (l := xl X) (G := xG X) hq14
    refine s_callV (pc := 38) (As := [.int ((mI q5 r10 (56 : Int32).toNatClampNeg) - 1)]) (st := []) (nlt rfl) (q := (RX12, TX12, 59)) rfl rfl o9 cl_X12_good wi_X12_good wl_X12_good km_X12_131 rfl rfl (nle rfl) (nle rfl) (nle rfl) dX12_house_38 hC15 ?_
    have h16 := hC15.1 X
    have o17 := h16.ok o9
    show S0 X _ q13.1 41 [some (.ref (gh (xG X) + a0)), some (.int x1), some (.int x2), some (.int x3), some (.int q2)] [.int q13.2] _
    exact s_iret rfl dX12_house_41
  · refine s_aload_n (pc := 14) 0 dX12_house_14 rfl rfl ?_
    refine s_iload (pc := 15) dX12_house_15 rfl ?_
    refine s_bind (fun q18 hq19 => ?_)
    have hC20 := t_X12_refuses (l := xl X) (G := xG X) hq19
    refine s_callV (pc := 17) (As := [.int q2]) (st := []) (nlt rfl) (q := (RX12, TX12, 59)) rfl rfl o1 cl_X12_refuses wi_X12_refuses wl_X12_refuses km_X12_127 rfl rfl (nle rfl) (nle rfl) (nle rfl) dX12_house_17 hC20 ?_
    have h21 := hC20.1 X
    have o22 := h21.ok o1
    show S0 X _ q18.1 20 [some (.ref (gh (xG X) + a0)), some (.int x1), some (.int x2), some (.int x3), some (.int q2)] [.int q18.2] _
    exact s_iret rfl dX12_house_20
