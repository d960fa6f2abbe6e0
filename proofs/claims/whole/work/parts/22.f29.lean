noncomputable def f_X12_tells (M : Mem) (a0 : Nat) (x1 : Int32) (x2 : Int32) : Option (Mem × Int32) :=
  grd (okO M 12 a0) (Option.bind (mR M a0 3) (fun r2 => grd (okO M 14 r2) (grd (vp_in 58 (mL M r2)) (if (mI M r2 (58 : Int32).toNatClampNeg) = (-1) then (some (M, x2)) else (bv (wI M a0 29 0) (fun M5 => Option.bind (mR M5 a0 3) (fun r9 => grd (okO M5 14 r9) (grd (vp_in 58 (mL M5 r9)) (bv (wI M5 a0 26 (400 * (mI M5 r9 (58 : Int32).toNatClampNeg))) (fun M12 => Option.bind (mR M12 a0 3) (fun r16 => Option.bind (mR M12 a0 3) (fun r17 => grd (okO M12 14 r17) (grd (vp_in 58 (mL M12 r17)) (grd (okO M12 14 r16) (grd (vp_in (59 + (mI M12 r17 (58 : Int32).toNatClampNeg)) (mL M12 r16)) (bv (wI M12 a0 27 ((mI M12 a0 26) + (mI M12 r16 (59 + (mI M12 r17 (58 : Int32).toNatClampNeg)).toNatClampNeg))) (fun M22 => Option.bind (loopO (σ := Mem × Int64) (ρ := Mem × Int64) (fun s26 => if (mI s26.1 a0 27) ≤ (mI s26.1 a0 26) then (some (.inr (s26.1, s26.2))) else (Option.bind (f_X12_codeAt s26.1 a0 (mI s26.1 a0 26)) (fun q35 => bv (wI s26.1 a0 28 0) (fun M38 => bv (wI M38 a0 26 ((mI M38 a0 26) + 1)) (fun M42 => bv (fun (s47 : Mem × Int64) => bv (mI s47.1 a0 28 : Int32) (fun x51 => bv (wI s47.1 a0 28 0) (fun M52 => Option.bind (f_X12_passes0 M52 a0 3) (fun q56 => bv (fun (s62 : Mem × Int32) => bv (fun (s67 : Int64) => bv (wI s62.1 a0 26 ((mI s62.1 a0 26) + 1)) (fun M70 => some (.inl (M70, s67)))) (fun j66 => if q35 = x1 then (if s62.2 = 0 then (j66 s26.2) else (if (mI s62.1 a0 28) = 0 then (if x51 = 0 then (bv (fun (s75 : Int64) => j66 s75) (fun j74 => if 0 ≤ (lg_cmp s47.2 0) then (if (lg_cmp s47.2 99) ≤ 0 then (j74 s47.2) else (j74 99)) else (j74 0))) else (j66 s26.2)) else (j66 s26.2))) else (j66 s26.2))) (fun j61 => bv (fun (s79 : Mem) => j61 (s79, 1)) (fun j78 => if q56.2 = 0 then (j78 q56.1) else (Option.bind (f_X12_testOf 100 q56.1 a0 1) (fun q83 => if q83.2 = 0 then (j61 (q83.1, 0)) else (j78 q83.1))))))))) (fun j46 => if q35 = 2 then (j46 (M42, 1)) else (Option.bind (f_X12_sumOf 100 M42 a0 1) (fun q88 => j46 (q88.1, q88.2))))))))) (M22, x2.toInt64)) (fun (x33 : Mem × Int64) => some (x33.1, x33.2.toInt32)))))))))))))))))))
abbrev Y_X12_tells : Sta := (RX12, "tells", cX12_tells, 10, (some .int), 105)
set_option maxRecDepth 100000 in
set_option maxHeartbeats 8000000 in
theorem t_X12_tells {l : Launch} {G : Gh} {M : Mem} {a0 : Nat} {x1 : Int32} {x2 : Int32} {q : Mem × Int32} (h : f_X12_tells M a0 x1 x2 = some q) : Ctr l G yX12_tells Y_X12_tells M [.ref (gh G + a0), .int x1, .int x2] q.1 (some (.int q.2)) := by
  refine Ctr.of (Y := Y_X12_tells) (L := [some (.ref (gh G + a0)), some (.int x1), some (.int x2), none, none, none, none, none, none, none]) (t := Option.bind (f_X12_tells M a0 x1 x2) (fun q => some (q.1, some (.int q.2)))) (by decide) rfl rfl (nle rfl) (Lof_in 7 _ rfl) (fun X hG hl => ?_) (by rw [h]; rfl)
  subst hG
  subst hl
  unfold f_X12_tells
  refine s_aload_n (pc := 0) 0 dX12_tells_0 rfl rfl ?_
  refine s_grd (fun o1 => ?_)
  refine s_geto (pc := 1) F_12 3 rfl o1 dX12_tells_1 kf_X12_20 ?_
  refine s_rvB (fun r2 => ?_)
  refine s_bipush (pc := 4) 58 dX12_tells_4 kb_58 ?_
  refine s_grd (fun o3 => ?_)
  refine s_grd (fun i4 => ?_)
  refine s_iald (pc := 6) o3 i4 dX12_tells_6 ?_
  refine s_iconst (pc := 7) (-1) dX12_tells_7 kc_m1 ?_
  refine s_icne (pc := 8) 13 dX12_tells_8 rfl ?_ ?_
  · refine s_aload_n (pc := 13) 0 dX12_tells_13 rfl rfl ?_
    refine s_iconst (pc := 14) 0 dX12_tells_14 kc_0 ?_
    refine s_puti (pc := 15) F_12 29 rfl o1 rfl rfl rfl dX12_tells_15 kf_X12_339 (fun M5 hM6 => ?_)
    have h7 := le_wI hM6
    have o8 := h7.ok o1
    refine s_iload_n (pc := 18) 2 dX12_tells_18 rfl rfl ?_
    refine s_i2l (pc := 19) dX12_tells_19 ?_
    refine s_lstore_n (pc := 20) 3 dX12_tells_20 rfl (nlt rfl) rfl (L' := [some (.ref (gh (xG X) + a0)), some (.int x1), some (.int x2), some (.long x2.toInt64), none, none, none, none, none, none]) rfl ?_
    refine s_aload_n (pc := 21) 0 dX12_tells_21 rfl rfl ?_
    refine s_sipush (pc := 22) 400 dX12_tells_22 ks_400 ?_
    refine s_aload_n (pc := 25) 0 dX12_tells_25 rfl rfl ?_
    refine s_geto (pc := 26) F_12 3 rfl o8 dX12_tells_26 kf_X12_20 ?_
    refine s_rvB (fun r9 => ?_)
    refine s_bipush (pc := 29) 58 dX12_tells_29 kb_58 ?_
    refine s_grd (fun o10 => ?_)
    refine s_grd (fun i11 => ?_)
    refine s_iald (pc := 31) o10 i11 dX12_tells_31 ?_
    refine s_imul (pc := 32) dX12_tells_32 ?_
    refine s_puti (pc := 33) F_12 26 rfl o8 rfl rfl rfl dX12_tells_33 kf_X12_309 (fun M12 hM13 => ?_)
    have h14 := le_wI hM13
    have o15 := h14.ok o8
    refine s_aload_n (pc := 36) 0 dX12_tells_36 rfl rfl ?_
    refine s_aload_n (pc := 37) 0 dX12_tells_37 rfl rfl ?_
    refine s_geti (pc := 38) F_12 26 rfl o15 dX12_tells_38 kf_X12_309 ?_
    refine s_aload_n (pc := 41) 0 dX12_tells_41 rfl rfl ?_
    refine s_geto (pc := 42) F_12 3 rfl o15 dX12_tells_42 kf_X12_20 ?_
    refine s_rvB (fun r16 => ?_)
    refine s_bipush (pc := 45) 59 dX12_tells_45 kb_59 ?_
    refine s_aload_n (pc := 47) 0 dX12_tells_47 rfl rfl ?_
    refine s_geto (pc := 48) F_12 3 rfl o15 dX12_tells_48 kf_X12_20 ?_
    refine s_rvB (fun r17 => ?_)
    refine s_bipush (pc := 51) 58 dX12_tells_51 kb_58 ?_
    refine s_grd (fun o18 => ?_)
    refine s_grd (fun i19 => ?_)
    refine s_iald (pc := 53) o18 i19 dX12_tells_53 ?_
    refine s_iadd (pc := 54) dX12_tells_54 ?_
    refine s_grd (fun o20 => ?_)
    refine s_grd (fun i21 => ?_)
    refine s_iald (pc := 55) o20 i21 dX12_tells_55 ?_
    refine s_iadd (pc := 56) dX12_tells_56 ?_
    refine s_puti (pc := 57) F_12 27 rfl o15 rfl rfl rfl dX12_tells_57 kf_X12_306 (fun M22 hM23 => ?_)
    have h24 := le_wI hM23
    have o25 := h24.ok o15
    refine s_drop (L' := [some (.ref (gh (xG X) + a0)), some (.int x1), none, some (.long x2.toInt64), none, none, none, none, none, none]) ?_ (And.intro rfl (And.intro rfl (And.intro rfl trivial)))
    refine s_loop1 M22 (fun s26 : Mem × Int64 => s26.1) (fun s26 : Mem × Int64 => [some (.ref (gh (xG X) + a0)), some (.int x1), none, some (.long s26.2), none, none, none, none, none, none]) (fun x33 : Mem × Int64 => x33.1) 212 (fun x33 : Mem × Int64 => [none, none, none, some (.long x33.2), none, none, none, none, none, none]) (fun x33 hx34 => ?_) (fun T28 R30 hT29 hR31 s26 hs27 => ?_) (M22, x2.toInt64) Le.rf
    · show S0 X _ x33.1 212 [none, none, none, some (.long x33.2), none, none, none, none, none, none] [] _
      refine s_lload_n (pc := 212) 3 dX12_tells_212 rfl rfl ?_
      refine s_l2i (pc := 213) dX12_tells_213 ?_
      exact s_iret rfl dX12_tells_214
    · show S0 X _ s26.1 60 [some (.ref (gh (xG X) + a0)), some (.int x1), none, some (.long s26.2), none, none, none, none, none, none] [] _
      have o32 := hs27.ok o25
      refine s_aload_n (pc := 60) 0 dX12_tells_60 rfl rfl ?_
      refine s_geti (pc := 61) F_12 26 rfl o32 dX12_tells_61 kf_X12_309 ?_
      refine s_aload_n (pc := 64) 0 dX12_tells_64 rfl rfl ?_
      refine s_geti (pc := 65) F_12 27 rfl o32 dX12_tells_65 kf_X12_306 ?_
      refine s_icge (pc := 68) 212 dX12_tells_68 rfl ?_ ?_
      · exact s_drop (hR31 (s26.1, s26.2) hs27) (And.intro rfl trivial)
      · refine s_aload_n (pc := 71) 0 dX12_tells_71 rfl rfl ?_
        refine s_aload_n (pc := 72) 0 dX12_tells_72 rfl rfl ?_
        refine s_geti (pc := 73) F_12 26 rfl o32 dX12_tells_73 kf_X12_309 ?_
        refine s_bind (fun q35 hq36 => ?_)
        have hC37 := t_X12_codeAt (l := xl X) (G := xG X) hq36
        refine s_callV (pc := 76) (As := [.int (mI s26.1 a0 26)]) (st := []) (nlt rfl) (q := (RX12, TX12, 59)) rfl rfl o32 cl_X12_codeAt wi_X12_codeAt wl_X12_codeAt km_X12_312 rfl rfl (nle rfl) (nle rfl) (nle rfl) dX12_tells_76 hC37 ?_
        show S0 X _ s26.1 79 [some (.ref (gh (xG X) + a0)), some (.int x1), none, some (.long s26.2), none, none, none, none, none, none] [.int q35] _
        refine s_istore (pc := 79) dX12_tells_79 (nlt rfl) rfl (L' := [some (.ref (gh (xG X) + a0)), some (.int x1), none, some (.long s26.2), none, some (.int q35), none, none, none, none]) rfl ?_
        refine s_aload_n (pc := 81) 0 dX12_tells_81 rfl rfl ?_
        refine s_iconst (pc := 82) 0 dX12_tells_82 kc_0 ?_
        refine s_puti (pc := 83) F_12 28 rfl o32 rfl rfl rfl dX12_tells_83 kf_X12_319 (fun M38 hM39 => ?_)
        have h40 := le_wI hM39
        have o41 := h40.ok o32
        refine s_aload_n (pc := 86) 0 dX12_tells_86 rfl rfl ?_
        refine s_dup (pc := 87) dX12_tells_87 rfl ?_
        refine s_geti (pc := 88) F_12 26 rfl o41 dX12_tells_88 kf_X12_309 ?_
        refine s_iconst (pc := 91) 1 dX12_tells_91 kc_1 ?_
        refine s_iadd (pc := 92) dX12_tells_92 ?_
        refine s_puti (pc := 93) F_12 26 rfl o41 rfl rfl rfl dX12_tells_93 kf_X12_309 (fun M42 hM43 => ?_)
        have h44 := le_wI hM43
        have o45 := h44.ok o41
        refine s_iload (pc := 96) dX12_tells_96 rfl ?_
        refine s_iconst (pc := 98) 2 dX12_tells_98 kc_2 ?_
        refine s_join M42 (fun s47 : Mem × Int64 => s47.1) 111 (fun s47 : Mem × Int64 => [some (.ref (gh (xG X) + a0)), some (.int x1), none, some (.long s26.2), none, some (.int q35), none, none, none, none]) (fun s47 : Mem × Int64 => [.long s47.2]) (fun s47 hs48 => ?_) (fun j46 hj49 => ?_)
        · show S0 X _ s47.1 111 [some (.ref (gh (xG X) + a0)), some (.int x1), none, some (.long s26.2), none, some (.int q35), none, none, none, none] [.long s47.2] _
          have o50 := hs48.ok o45
          refine s_lstore (pc := 111) dX12_tells_111 (nlt rfl) rfl (L' := [some (.ref (gh (xG X) + a0)), some (.int x1), none, some (.long s26.2), none, some (.int q35), some (.long s47.2), none, none, none]) rfl ?_
          refine s_aload_n (pc := 113) 0 dX12_tells_113 rfl rfl ?_
          refine s_geti (pc := 114) F_12 28 rfl o50 dX12_tells_114 kf_X12_319 ?_
          refine s_istore (pc := 117) dX12_tells_117 (nlt rfl) rfl (L' := [some (.ref (gh (xG X) + a0)), some (.int x1), none, some (.long s26.2), none, some (.int q35), some (.long s47.2), none, some (.int (mI s47.1 a0 28)), none]) rfl ?_
          refine s_bv (fun x51 : Int32 => [some (.ref (gh (xG X) + a0)), some (.int x1), none, some (.long s26.2), none, some (.int q35), some (.long s47.2), none, some (.int x51), none]) (fun x51 => ?_) rfl
          refine s_aload_n (pc := 119) 0 dX12_tells_119 rfl rfl ?_
          refine s_iconst (pc := 120) 0 dX12_tells_120 kc_0 ?_
          refine s_puti (pc := 121) F_12 28 rfl o50 rfl rfl rfl dX12_tells_121 kf_X12_319 (fun M52 hM53 => ?_)
          have h54 := le_wI hM53
          have o55 := h54.ok o50
          refine s_aload_n (pc := 124) 0 dX12_tells_124 rfl rfl ?_
          refine s_iconst (pc := 125) 3 dX12_tells_125 kc_3 ?_
          refine s_bind (fun q56 hq57 => ?_)
          have hC58 := t_X12_passes0 (l := xl X) (G := xG X) hq57
          refine s_callV (pc := 126) (As := [.int 3]) (st := []) (nlt rfl) (q := (RX12, TX12, 59)) rfl rfl o55 cl_X12_passes0 wi_X12_passes0 wl_X12_passes0 km_X12_333 rfl rfl (nle rfl) (nle rfl) (nle rfl) dX12_tells_126 hC58 ?_
          have h59 := hC58.1 X
          have o60 := h59.ok o55
          show S0 X _ q56.1 129 [some (.ref (gh (xG X) + a0)), some (.int x1), none, some (.long s26.2), none, some (.int q35), some (.long s47.2), none, some (.int x51), none] [.int q56.2] _
          refine s_join q56.1 (fun s62 : Mem × Int32 => s62.1) 145 (fun s62 : Mem × Int32 => [some (.ref (gh (xG X) + a0)), some (.int x1), none, some (.long s26.2), none, some (.int q35), some (.long s47.2), none, some (.int x51), none]) (fun s62 : Mem × Int32 => [.int s62.2]) (fun s62 hs63 => ?_) (fun j61 hj64 => ?_)
          · show S0 X _ s62.1 145 [some (.ref (gh (xG X) + a0)), some (.int x1), none, some (.long s26.2), none, some (.int q35), some (.long s47.2), none, some (.int x51), none] [.int s62.2] _
            have o65 := hs63.ok o60
            refine s_istore (pc := 145) dX12_tells_145 (nlt rfl) rfl (L' := [some (.ref (gh (xG X) + a0)), some (.int x1), none, some (.long s26.2), none, some (.int q35), some (.long s47.2), none, some (.int x51), some (.int s62.2)]) rfl ?_
            refine s_iload (pc := 147) dX12_tells_147 rfl ?_
            refine s_iload_n (pc := 149) 1 dX12_tells_149 rfl rfl ?_
            refine s_join s62.1 (fun s67 : Int64 => s62.1) 199 (fun s67 : Int64 => [some (.ref (gh (xG X) + a0)), some (.int x1), none, some (.long s67), none, none, none, none, none, none]) (fun s67 : Int64 => []) (fun s67 hs68 => ?_) (fun j66 hj69 => ?_)
            · show S0 X _ s62.1 199 [some (.ref (gh (xG X) + a0)), some (.int x1), none, some (.long s67), none, none, none, none, none, none] [] _
              refine s_aload_n (pc := 199) 0 dX12_tells_199 rfl rfl ?_
              refine s_dup (pc := 200) dX12_tells_200 rfl ?_
              refine s_geti (pc := 201) F_12 26 rfl o65 dX12_tells_201 kf_X12_309 ?_
              refine s_iconst (pc := 204) 1 dX12_tells_204 kc_1 ?_
              refine s_iadd (pc := 205) dX12_tells_205 ?_
              refine s_puti (pc := 206) F_12 26 rfl o65 rfl rfl rfl dX12_tells_206 kf_X12_309 (fun M70 hM71 => ?_)
              have h72 := le_wI hM71
              have o73 := h72.ok o65
              refine s_goto (pc := 209) 60 dX12_tells_209 rfl ?_
              exact s_drop (hT29 (M70, s67) (hs27.tr (h40.tr (h44.tr (hs48.tr (h54.tr (h59.tr (hs63.tr h72)))))))) (And.intro rfl (And.intro rfl (And.intro rfl trivial)))
            · refine s_icne (pc := 150) 199 dX12_tells_150 rfl ?_ ?_
              · exact s_drop (hj69 s26.2 Le.rf) (And.intro rfl (And.intro rfl (And.intro rfl trivial)))
              · refine s_iload (pc := 153) dX12_tells_153 rfl ?_
                refine s_ifeq (pc := 155) 199 dX12_tells_155 rfl ?_ ?_
                · exact s_drop (hj69 s26.2 Le.rf) (And.intro rfl (And.intro rfl (And.intro rfl trivial)))
                · refine s_aload_n (pc := 158) 0 dX12_tells_158 rfl rfl ?_
                  refine s_geti (pc := 159) F_12 28 rfl o65 dX12_tells_159 kf_X12_319 ?_
                  refine s_ifne (pc := 162) 199 dX12_tells_162 rfl ?_ ?_
                  · exact s_drop (hj69 s26.2 Le.rf) (And.intro rfl (And.intro rfl (And.intro rfl trivial)))
                  · refine s_iload (pc := 165) dX12_tells_165 rfl ?_
                    refine s_ifne (pc := 167) 199 dX12_tells_167 rfl ?_ ?_
                    · exact s_drop (hj69 s26.2 Le.rf) (And.intro rfl (And.intro rfl (And.intro rfl trivial)))
                    · refine s_lload (pc := 170) dX12_tells_170 rfl ?_
                      refine s_lconst (pc := 172) 0 dX12_tells_172 kl_0 ?_
                      refine s_lcmp (pc := 173) dX12_tells_173 ?_
                      refine s_join s62.1 (fun s75 : Int64 => s62.1) 198 (fun s75 : Int64 => [some (.ref (gh (xG X) + a0)), some (.int x1), none, none, none, none, none, none, none, none]) (fun s75 : Int64 => [.long s75]) (fun s75 hs76 => ?_) (fun j74 hj77 => ?_)
                      · show S0 X _ s62.1 198 [some (.ref (gh (xG X) + a0)), some (.int x1), none, none, none, none, none, none, none, none] [.long s75] _
                        refine s_lstore_n (pc := 198) 3 dX12_tells_198 rfl (nlt rfl) rfl (L' := [some (.ref (gh (xG X) + a0)), some (.int x1), none, some (.long s75), none, none, none, none, none, none]) rfl ?_
                        exact s_drop (hj69 s75 Le.rf) (And.intro rfl (And.intro rfl (And.intro rfl trivial)))
                      · refine s_ifge (pc := 174) 181 dX12_tells_174 rfl ?_ ?_
                        · refine s_lload (pc := 181) dX12_tells_181 rfl ?_
                          refine s_ldc2 (pc := 183) dX12_tells_183 kl_X12_357 ?_
                          refine s_lcmp (pc := 186) dX12_tells_186 ?_
                          refine s_ifle (pc := 187) 196 dX12_tells_187 rfl ?_ ?_
                          · refine s_lload (pc := 196) dX12_tells_196 rfl ?_
                            exact s_drop (hj77 s47.2 Le.rf) (And.intro rfl (And.intro rfl trivial))
                          · refine s_ldc2 (pc := 190) dX12_tells_190 kl_X12_357 ?_
                            refine s_goto (pc := 193) 198 dX12_tells_193 rfl ?_
                            exact s_drop (hj77 99 Le.rf) (And.intro rfl (And.intro rfl trivial))
                        · refine s_lconst (pc := 177) 0 dX12_tells_177 kl_0 ?_
                          refine s_goto (pc := 178) 198 dX12_tells_178 rfl ?_
                          exact s_drop (hj77 0 Le.rf) (And.intro rfl (And.intro rfl trivial))
          · refine s_join q56.1 (fun s79 : Mem => s79) 140 (fun s79 : Mem => [some (.ref (gh (xG X) + a0)), some (.int x1), none, some (.long s26.2), none, some (.int q35), some (.long s47.2), none, some (.int x51), none]) (fun s79 : Mem => []) (fun s79 hs80 => ?_) (fun j78 hj81 => ?_)
            · show S0 X _ s79 140 [some (.ref (gh (xG X) + a0)), some (.int x1), none, some (.long s26.2), none, some (.int q35), some (.long s47.2), none, some (.int x51), none] [] _
              have o82 := hs80.ok o60
              refine s_iconst (pc := 140) 1 dX12_tells_140 kc_1 ?_
              refine s_goto (pc := 141) 145 dX12_tells_141 rfl ?_
              exact s_drop (hj64 (s79, 1) hs80) (And.intro rfl (And.intro rfl (And.intro rfl (And.intro rfl (And.intro rfl (And.intro rfl trivial))))))
            · refine s_ifeq (pc := 129) 140 dX12_tells_129 rfl ?_ ?_
              · exact s_drop (hj81 q56.1 Le.rf) (And.intro rfl (And.intro rfl (And.intro rfl (And.intro rfl (And.intro rfl (And.intro rfl trivial))))))
              · refine s_aload_n (pc := 132) 0 dX12_tells_132 rfl rfl ?_
                refine s_iconst (pc := 133) 1 dX12_tells_133 kc_1 ?_
                refine s_bind (fun q83 hq84 => ?_)
                have hC85 := tf_X12_testOf (l := xl X) (G := xG X) hq84
                refine s_callV (pc := 134) (As := [.int 1]) (st := []) (nlt rfl) (q := (RX12, TX12, 59)) rfl rfl o60 cl_X12_testOf wi_X12_testOf wl_X12_testOf km_X12_354 rfl rfl (nle rfl) (nle rfl) (nle rfl) dX12_tells_134 hC85 ?_
                have h86 := hC85.1 X
                have o87 := h86.ok o60
                show S0 X _ q83.1 137 [some (.ref (gh (xG X) + a0)), some (.int x1), none, some (.long s26.2), none, some (.int q35), some (.long s47.2), none, some (.int x51), none] [.int q83.2] _
                refine s_ifeq (pc := 137) 144 dX12_tells_137 rfl ?_ ?_
                · refine s_iconst (pc := 144) 0 dX12_tells_144 kc_0 ?_
                  exact s_drop (hj64 (q83.1, 0) h86) (And.intro rfl (And.intro rfl (And.intro rfl (And.intro rfl (And.intro rfl (And.intro rfl trivial))))))
                · exact s_drop (hj81 q83.1 h86) (And.intro rfl (And.intro rfl (And.intro rfl (And.intro rfl (And.intro rfl (And.intro rfl trivial))))))
        · refine s_icne (pc := 99) 106 dX12_tells_99 rfl ?_ ?_
          · refine s_aload_n (pc := 106) 0 dX12_tells_106 rfl rfl ?_
            refine s_iconst (pc := 107) 1 dX12_tells_107 kc_1 ?_
            refine s_bind (fun q88 hq89 => ?_)
            have hC90 := tf_X12_sumOf (l := xl X) (G := xG X) hq89
            refine s_callV (pc := 108) (As := [.int 1]) (st := []) (nlt rfl) (q := (RX12, TX12, 59)) rfl rfl o45 cl_X12_sumOf wi_X12_sumOf wl_X12_sumOf km_X12_336 rfl rfl (nle rfl) (nle rfl) (nle rfl) dX12_tells_108 hC90 ?_
            have h91 := hC90.1 X
            have o92 := h91.ok o45
            show S0 X _ q88.1 111 [some (.ref (gh (xG X) + a0)), some (.int x1), none, some (.long s26.2), none, some (.int q35), none, none, none, none] [.long q88.2] _
            exact s_drop (hj49 (q88.1, q88.2) h91) (And.intro rfl (And.intro rfl (And.intro rfl (And.intro rfl trivial))))
          · refine s_lconst (pc := 102) 1 dX12_tells_102 kl_1 ?_
            refine s_goto (pc := 103) 111 dX12_tells_103 rfl ?_
            exact s_drop (hj49 (M42, 1) Le.rf) (And.intro rfl (And.intro rfl (And.intro rfl (And.intro rfl trivial))))
  · refine s_iload_n (pc := 11) 2 dX12_tells_11 rfl rfl ?_
    exact s_iret rfl dX12_tells_12
noncomputable def b_X7_both (g_X7_plain : Mem → Nat → Int32 → Option (Mem × Int32)) (M : Mem) (a0 : Nat) (x1 : Int32) : Option (Mem × Int32) :=
  grd (okO M 7 a0) (Option.bind (g_X7_plain M a0 x1) (fun q2 => if q2.2 = 0 then (some (q2.1, 0)) else (Option.bind (loopO (σ := Mem × Int32) (ρ := Mem ⊕ Mem) (fun s7 => if 400 ≤ s7.2 then (some (.inr (.inl s7.1))) else (if (mI s7.1 a0 8) = 264 then (Option.bind (mR s7.1 a0 3) (fun r20 => grd (okO s7.1 9 r20) (Option.bind (f_X9_emit s7.1 r20 13 0) (fun q22 => Option.bind (f_X7_next q22.1 a0) (fun q27 => Option.bind (g_X7_plain q27 a0 x1) (fun q32 => if q32.2 = 0 then (some (.inr (.inr q32.1))) else (Option.bind (mR q32.1 a0 3) (fun r37 => grd (okO q32.1 9 r37) (Option.bind (f_X9_aim q32.1 r37 q22.2) (fun q39 => bv (s7.2 + 1 : Int32) (fun x44 => some (.inl (q39, x44))))))))))))) else (some (.inr (.inl s7.1))))) (q2.1, 0)) (Sum.elim (fun (x16 : Mem) => some (x16, 1)) (fun (x18 : Mem) => some (x18, 0))))))
abbrev Y_X7_both (d : Nat) : Sta := (RX7, "both", cX7_both, 4, (some .boolean), 105 + d)
set_option maxRecDepth 100000 in
set_option maxHeartbeats 8000000 in
theorem t_X7_both {d : Nat} {g_X7_plain : Mem → Nat → Int32 → Option (Mem × Int32)} {l : Launch} {G : Gh} {M : Mem} {a0 : Nat} {x1 : Int32} {q : Mem × Int32} (hg_X7_plain : ∀ X : Ctx, xG X = G → xl X = l → ∀ (M : Mem) (a0 : Nat) (x1 : Int32) (q : Mem × Int32), g_X7_plain M a0 x1 = some q → Ctr (xl X) (xG X) yX7_plain (Y_X7_plain d) M [.ref (gh (xG X) + a0), .int x1] q.1 (some (.int q.2))) (h : b_X7_both g_X7_plain M a0 x1 = some q) : Ctr l G yX7_both (Y_X7_both (d + 1)) M [.ref (gh G + a0), .int x1] q.1 (some (.int q.2)) := by
  refine Ctr.of (Y := (Y_X7_both (d + 1))) (L := [some (.ref (gh G + a0)), some (.int x1), none, none]) (t := Option.bind (b_X7_both g_X7_plain M a0 x1) (fun q => some (q.1, some (.int q.2)))) (by decide) rfl rfl (nle rfl) (Lof_in 2 _ rfl) (fun X hG hl => ?_) (by rw [h]; rfl)
  subst hG
  subst hl
  unfold b_X7_both
  refine s_aload_n (pc := 0) 0 dX7_both_0 rfl rfl ?_
  refine s_iload_n (pc := 1) 1 dX7_both_1 rfl rfl ?_
  refine s_grd (fun o1 => ?_)
  refine s_bind (fun q2 hq3 => ?_)
  have hC4 := hg_X7_plain X rfl rfl M a0 x1 q2 hq3
  refine s_callV (pc := 2) (As := [.int x1]) (st := []) (nlt rfl) (q := (RX7, TX7, 10)) rfl rfl o1 cl_X7_plain wi_X7_plain wl_X7_plain km_X7_146 rfl rfl (Nat.le_refl _) (nle rfl) (nle rfl) dX7_both_2 hC4 ?_
  have h5 := hC4.1 X
  have o6 := h5.ok o1
  show S0 X _ q2.1 5 [some (.ref (gh (xG X) + a0)), some (.int x1), none, none] [.int q2.2] _
  refine s_ifne (pc := 5) 10 dX7_both_5 rfl ?_ ?_
  · refine s_iconst (pc := 10) 0 dX7_both_10 kc_0 ?_
    refine s_istore_n (pc := 11) 2 dX7_both_11 rfl (nlt rfl) rfl (L' := [some (.ref (gh (xG X) + a0)), some (.int x1), some (.int 0), none]) rfl ?_
    refine s_drop (L' := [some (.ref (gh (xG X) + a0)), some (.int x1), some (.int 0), none]) ?_ (And.intro rfl (And.intro rfl (And.intro rfl trivial)))
    refine s_loop2 q2.1 (fun s7 : Mem × Int32 => s7.1) (fun s7 : Mem × Int32 => [some (.ref (gh (xG X) + a0)), some (.int x1), some (.int s7.2), none]) (fun x16 : Mem => x16) 68 (fun x16 : Mem => [none, none, none, none]) (fun x18 : Mem => x18) 52 (fun x18 : Mem => [none, none, none, none]) (fun x16 hx17 => ?_) (fun x18 hx19 => ?_) (fun T9 R11 R13 hT10 hR12 hR14 s7 hs8 => ?_) (q2.1, 0) Le.rf
    · show S0 X _ x16 68 [none, none, none, none] [] _
      refine s_iconst (pc := 68) 1 dX7_both_68 kc_1 ?_
      exact s_zret rfl rfl dX7_both_69
    · show S0 X _ x18 52 [none, none, none, none] [] _
      refine s_iconst (pc := 52) 0 dX7_both_52 kc_0 ?_
      exact s_zret rfl rfl dX7_both_53
    · show S0 X _ s7.1 12 [some (.ref (gh (xG X) + a0)), some (.int x1), some (.int s7.2), none] [] _
      have o15 := hs8.ok o6
      refine s_iload_n (pc := 12) 2 dX7_both_12 rfl rfl ?_
      refine s_sipush (pc := 13) 400 dX7_both_13 ks_400 ?_
      refine s_icge (pc := 16) 68 dX7_both_16 rfl ?_ ?_
      · exact s_drop (hR12 s7.1 hs8) trivial
      · refine s_aload_n (pc := 19) 0 dX7_both_19 rfl rfl ?_
        refine s_geti (pc := 20) F_7 8 rfl o15 dX7_both_20 kf_X7_66 ?_
        refine s_sipush (pc := 23) 264 dX7_both_23 ks_264 ?_
        refine s_icne (pc := 26) 68 dX7_both_26 rfl ?_ ?_
        · exact s_drop (hR12 s7.1 hs8) trivial
        · refine s_aload_n (pc := 29) 0 dX7_both_29 rfl rfl ?_
          refine s_geto (pc := 30) F_7 3 rfl o15 dX7_both_30 kf_X7_26 ?_
          refine s_rvB (fun r20 => ?_)
          refine s_bipush (pc := 33) 13 dX7_both_33 kb_13 ?_
          refine s_iconst (pc := 35) 0 dX7_both_35 kc_0 ?_
          refine s_grd (fun o21 => ?_)
          refine s_bind (fun q22 hq23 => ?_)
          have hC24 := t_X9_emit (l := xl X) (G := xG X) hq23
          refine s_callV (pc := 36) (As := [.int 13, .int 0]) (st := []) (nlt rfl) (q := (RX9, TX9, 5)) rfl rfl o21 cl_X9_emit wi_X9_emit wl_X9_emit km_X7_134 rfl rfl (Nat.le_trans (nle rfl : _ ≤ 105) (Nat.le_add_right 105 _)) (nle rfl) (nle rfl) dX7_both_36 hC24 ?_
          have h25 := hC24.1 X
          have o26 := h25.ok o15
          show S0 X _ q22.1 39 [some (.ref (gh (xG X) + a0)), some (.int x1), some (.int s7.2), none] [.int q22.2] _
          refine s_istore_n (pc := 39) 3 dX7_both_39 rfl (nlt rfl) rfl (L' := [some (.ref (gh (xG X) + a0)), some (.int x1), some (.int s7.2), some (.int q22.2)]) rfl ?_
          refine s_aload_n (pc := 40) 0 dX7_both_40 rfl rfl ?_
          refine s_bind (fun q27 hq28 => ?_)
          have hC29 := t_X7_next (l := xl X) (G := xG X) hq28
          refine s_callV (pc := 41) (As := []) (st := []) (nlt rfl) (q := (RX7, TX7, 10)) rfl rfl o26 cl_X7_next wi_X7_next wl_X7_next km_X7_79 rfl rfl (Nat.le_trans (nle rfl : _ ≤ 105) (Nat.le_add_right 105 _)) (nle rfl) (nle rfl) dX7_both_41 hC29 ?_
          have h30 := hC29.1 X
          have o31 := h30.ok o26
          show S0 X _ q27 44 [some (.ref (gh (xG X) + a0)), some (.int x1), some (.int s7.2), some (.int q22.2)] [] _
          refine s_aload_n (pc := 44) 0 dX7_both_44 rfl rfl ?_
          refine s_iload_n (pc := 45) 1 dX7_both_45 rfl rfl ?_
          refine s_bind (fun q32 hq33 => ?_)
          have hC34 := hg_X7_plain X rfl rfl q27 a0 x1 q32 hq33
          refine s_callV (pc := 46) (As := [.int x1]) (st := []) (nlt rfl) (q := (RX7, TX7, 10)) rfl rfl o31 cl_X7_plain wi_X7_plain wl_X7_plain km_X7_146 rfl rfl (Nat.le_refl _) (nle rfl) (nle rfl) dX7_both_46 hC34 ?_
          have h35 := hC34.1 X
          have o36 := h35.ok o31
          show S0 X _ q32.1 49 [some (.ref (gh (xG X) + a0)), some (.int x1), some (.int s7.2), some (.int q22.2)] [.int q32.2] _
          refine s_ifne (pc := 49) 54 dX7_both_49 rfl ?_ ?_
          · refine s_aload_n (pc := 54) 0 dX7_both_54 rfl rfl ?_
            refine s_geto (pc := 55) F_7 3 rfl o36 dX7_both_55 kf_X7_26 ?_
            refine s_rvB (fun r37 => ?_)
            refine s_iload_n (pc := 58) 3 dX7_both_58 rfl rfl ?_
            refine s_grd (fun o38 => ?_)
            refine s_bind (fun q39 hq40 => ?_)
            have hC41 := t_X9_aim (l := xl X) (G := xG X) hq40
            refine s_callV (pc := 59) (As := [.int q22.2]) (st := []) (nlt rfl) (q := (RX9, TX9, 5)) rfl rfl o38 cl_X9_aim wi_X9_aim wl_X9_aim km_X7_143 rfl rfl (Nat.le_trans (nle rfl : _ ≤ 105) (Nat.le_add_right 105 _)) (nle rfl) (nle rfl) dX7_both_59 hC41 ?_
            have h42 := hC41.1 X
            have o43 := h42.ok o36
            show S0 X _ q39 62 [some (.ref (gh (xG X) + a0)), some (.int x1), some (.int s7.2), some (.int q22.2)] [] _
            refine s_iinc (pc := 62) dX7_both_62 rfl (v := s7.2 + 1) (congrArg (fun z : Int32 => s7.2 + z) kc_1) (nlt rfl) rfl (L' := [some (.ref (gh (xG X) + a0)), some (.int x1), some (.int (s7.2 + 1)), some (.int q22.2)]) rfl ?_
            refine s_bv (fun x44 : Int32 => [some (.ref (gh (xG X) + a0)), some (.int x1), some (.int x44), some (.int q22.2)]) (fun x44 => ?_) rfl
            refine s_goto (pc := 65) 12 dX7_both_65 rfl ?_
            exact s_drop (hT10 (q39, x44) (hs8.tr (h25.tr (h30.tr (h35.tr h42))))) (And.intro rfl (And.intro rfl (And.intro rfl trivial)))
          · exact s_drop (hR14 q32.1 (hs8.tr (h25.tr (h30.tr h35)))) trivial
  · refine s_iconst (pc := 8) 0 dX7_both_8 kc_0 ?_
    exact s_zret rfl rfl dX7_both_9
noncomputable def b_X7_inRound (g_X7_test : Mem → Nat → Int32 → Option (Mem × Int32)) (M : Mem) (a0 : Nat) (x1 : Int32) : Option (Mem × Int32) :=
  if x1 < 8 then (grd (okO M 7 a0) (Option.bind (f_X7_next M a0) (fun q2 => Option.bind (g_X7_test q2 a0 (x1 + 1)) (fun q7 => if q7.2 = 0 then (some (q7.1, 0)) else (if (mI q7.1 a0 8) = 41 then (Option.bind (f_X7_next q7.1 a0) (fun q12 => some (q12, 1))) else (Option.bind (f_X7_fail q7.1 a0) (fun q17 => grd (bl q17.2) (some (q17.1, q17.2))))))))) else (grd (okO M 7 a0) (Option.bind (f_X7_fail M a0) (fun q24 => grd (bl q24.2) (some (q24.1, q24.2)))))
abbrev Y_X7_inRound (d : Nat) : Sta := (RX7, "inRound", cX7_inRound, 2, (some .boolean), 105 + d)
set_option maxRecDepth 100000 in
set_option maxHeartbeats 8000000 in
theorem t_X7_inRound {d : Nat} {g_X7_test : Mem → Nat → Int32 → Option (Mem × Int32)} {l : Launch} {G : Gh} {M : Mem} {a0 : Nat} {x1 : Int32} {q : Mem × Int32} (hg_X7_test : ∀ X : Ctx, xG X = G → xl X = l → ∀ (M : Mem) (a0 : Nat) (x1 : Int32) (q : Mem × Int32), g_X7_test M a0 x1 = some q → Ctr (xl X) (xG X) yX7_test (Y_X7_test d) M [.ref (gh (xG X) + a0), .int x1] q.1 (some (.int q.2))) (h : b_X7_inRound g_X7_test M a0 x1 = some q) : Ctr l G yX7_inRound (Y_X7_inRound (d + 1)) M [.ref (gh G + a0), .int x1] q.1 (some (.int q.2)) := by
  refine Ctr.of (Y := (Y_X7_inRound (d + 1))) (L := [some (.ref (gh G + a0)), some (.int x1)]) (t := Option.bind (b_X7_inRound g_X7_test M a0 x1) (fun q => some (q.1, some (.int q.2)))) (by decide) rfl rfl (nle rfl) (Lof_in 0 _ rfl) (fun X hG hl => ?_) (by rw [h]; rfl)
  subst hG
  subst hl
  unfold b_X7_inRound
  refine s_iload_n (pc := 0) 1 dX7_inRound_0 rfl rfl ?_
  refine s_bipush (pc := 1) 8 dX7_inRound_1 kb_8 ?_
  refine s_iclt (pc := 3) 11 dX7_inRound_3 rfl ?_ ?_
  · refine s_aload_n (pc := 11) 0 dX7_inRound_11 rfl rfl ?_
    refine s_grd (fun o1 => ?_)
    refine s_bind (fun q2 hq3 => ?_)
    have hC4 := t_X7_next (l := xl X) (G := xG X) hq3
    refine s_callV (pc := 12) (As := []) (st := []) (nlt rfl) (q := (RX7, TX7, 10)) rfl rfl o1 cl_X7_next wi_X7_next wl_X7_next km_X7_79 rfl rfl (Nat.le_trans (nle rfl : _ ≤ 105) (Nat.le_add_right 105 _)) (nle rfl) (nle rfl) dX7_inRound_12 hC4 ?_
    have h5 := hC4.1 X
    have o6 := h5.ok o1
    show S0 X _ q2 15 [some (.ref (gh (xG X) + a0)), some (.int x1)] [] _
    refine s_aload_n (pc := 15) 0 dX7_inRound_15 rfl rfl ?_
    refine s_iload_n (pc := 16) 1 dX7_inRound_16 rfl rfl ?_
    refine s_iconst (pc := 17) 1 dX7_inRound_17 kc_1 ?_
    refine s_iadd (pc := 18) dX7_inRound_18 ?_
    refine s_bind (fun q7 hq8 => ?_)
    have hC9 := hg_X7_test X rfl rfl q2 a0 (x1 + 1) q7 hq8
    refine s_callV (pc := 19) (As := [.int (x1 + 1)]) (st := []) (nlt rfl) (q := (RX7, TX7, 10)) rfl rfl o6 cl_X7_test wi_X7_test wl_X7_test km_X7_129 rfl rfl (Nat.le_refl _) (nle rfl) (nle rfl) dX7_inRound_19 hC9 ?_
    have h10 := hC9.1 X
    have o11 := h10.ok o6
    show S0 X _ q7.1 22 [some (.ref (gh (xG X) + a0)), some (.int x1)] [.int q7.2] _
    refine s_ifne (pc := 22) 27 dX7_inRound_22 rfl ?_ ?_
    · refine s_aload_n (pc := 27) 0 dX7_inRound_27 rfl rfl ?_
      refine s_geti (pc := 28) F_7 8 rfl o11 dX7_inRound_28 kf_X7_66 ?_
      refine s_bipush (pc := 31) 41 dX7_inRound_31 kb_41 ?_
      refine s_iceq (pc := 33) 41 dX7_inRound_33 rfl ?_ ?_
      · refine s_aload_n (pc := 41) 0 dX7_inRound_41 rfl rfl ?_
        refine s_bind (fun q12 hq13 => ?_)
        have hC14 := t_X7_next (l := xl X) (G := xG X) hq13
        refine s_callV (pc := 42) (As := []) (st := []) (nlt rfl) (q := (RX7, TX7, 10)) rfl rfl o11 cl_X7_next wi_X7_next wl_X7_next km_X7_79 rfl rfl (Nat.le_trans (nle rfl : _ ≤ 105) (Nat.le_add_right 105 _)) (nle rfl) (nle rfl) dX7_inRound_42 hC14 ?_
        have h15 := hC14.1 X
        have o16 := h15.ok o11
        show S0 X _ q12 45 [some (.ref (gh (xG X) + a0)), some (.int x1)] [] _
        refine s_iconst (pc := 45) 1 dX7_inRound_45 kc_1 ?_
        exact s_zret rfl rfl dX7_inRound_46
      · refine s_aload_n (pc := 36) 0 dX7_inRound_36 rfl rfl ?_
        refine s_bind (fun q17 hq18 => ?_)
        have hC19 := t_X7_fail (l := xl X) (G := xG X) hq18
        refine s_callV (pc := 37) (As := []) (st := []) (nlt rfl) (q := (RX7, TX7, 10)) rfl rfl o11 cl_X7_fail wi_X7_fail wl_X7_fail km_X7_76 rfl rfl (Nat.le_trans (nle rfl : _ ≤ 105) (Nat.le_add_right 105 _)) (nle rfl) (nle rfl) dX7_inRound_37 hC19 ?_
        have h20 := hC19.1 X
        have o21 := h20.ok o11
        show S0 X _ q17.1 40 [some (.ref (gh (xG X) + a0)), some (.int x1)] [.int q17.2] _
        refine s_grd (fun g22 => ?_)
        exact s_zret rfl g22 dX7_inRound_40
    · refine s_iconst (pc := 25) 0 dX7_inRound_25 kc_0 ?_
      exact s_zret rfl rfl dX7_inRound_26
  · refine s_aload_n (pc := 6) 0 dX7_inRound_6 rfl rfl ?_
    refine s_grd (fun o23 => ?_)
    refine s_bind (fun q24 hq25 => ?_)
    have hC26 := t_X7_fail (l := xl X) (G := xG X) hq25
    refine s_callV (pc := 7) (As := []) (st := []) (nlt rfl) (q := (RX7, TX7, 10)) rfl rfl o23 cl_X7_fail wi_X7_fail wl_X7_fail km_X7_76 rfl rfl (Nat.le_trans (nle rfl : _ ≤ 105) (Nat.le_add_right 105 _)) (nle rfl) (nle rfl) dX7_inRound_7 hC26 ?_
    have h27 := hC26.1 X
    have o28 := h27.ok o23
    show S0 X _ q24.1 10 [some (.ref (gh (xG X) + a0)), some (.int x1)] [.int q24.2] _
    refine s_grd (fun g29 => ?_)
    exact s_zret rfl g29 dX7_inRound_10
noncomputable def b_X7_plain (g_X7_inRound : Mem → Nat → Int32 → Option (Mem × Int32)) (M : Mem) (a0 : Nat) (x1 : Int32) : Option (Mem × Int32) :=
  Option.bind (loopO (σ := Mem × Int32 × Int32) (ρ := Mem × Int32) (fun s1 => if 400 ≤ s1.2.2 then (some (.inr (s1.1, s1.2.1))) else (grd (okO s1.1 7 a0) (if (mI s1.1 a0 8) = 265 then (bv (fun (s11 : Int32) => Option.bind (f_X7_next s1.1 a0) (fun q14 => bv (s1.2.2 + 1 : Int32) (fun x19 => some (.inl (q14, s11, x19))))) (fun j10 => if s1.2.1 = 0 then (j10 1) else (j10 0))) else (some (.inr (s1.1, s1.2.1)))))) (M, 0, 0)) (fun (x7 : Mem × Int32) => grd (okO x7.1 7 a0) (bv (fun (s22 : Mem) => if x7.2 = 0 then (some (s22, 1)) else (Option.bind (mR s22 a0 3) (fun r26 => grd (okO s22 9 r26) (Option.bind (f_X9_emit s22 r26 11 0) (fun q28 => some (q28.1, 1)))))) (fun j21 => if (mI x7.1 a0 8) = 40 then (Option.bind (g_X7_inRound x7.1 a0 x1) (fun q38 => if q38.2 = 0 then (some (q38.1, 0)) else (j21 q38.1))) else (Option.bind (f_X7_comparison x7.1 a0 x1) (fun q33 => if q33.2 = 0 then (some (q33.1, 0)) else (j21 q33.1))))))
abbrev Y_X7_plain (d : Nat) : Sta := (RX7, "plain", cX7_plain, 4, (some .boolean), 105 + d)
set_option maxRecDepth 100000 in
set_option maxHeartbeats 8000000 in
theorem t_X7_plain {d : Nat} {g_X7_inRound : Mem → Nat → Int32 → Option (Mem × Int32)} {l : Launch} {G : Gh} {M : Mem} {a0 : Nat} {x1 : Int32} {q : Mem × Int32} (hg_X7_inRound : ∀ X : Ctx, xG X = G → xl X = l → ∀ (M : Mem) (a0 : Nat) (x1 : Int32) (q : Mem × Int32), g_X7_inRound M a0 x1 = some q → Ctr (xl X) (xG X) yX7_inRound (Y_X7_inRound d) M [.ref (gh (xG X) + a0), .int x1] q.1 (some (.int q.2))) (h : b_X7_plain g_X7_inRound M a0 x1 = some q) : Ctr l G yX7_plain (Y_X7_plain (d + 1)) M [.ref (gh G + a0), .int x1] q.1 (some (.int q.2)) := by
  refine Ctr.of (Y := (Y_X7_plain (d + 1))) (L := [some (.ref (gh G + a0)), some (.int x1), none, none]) (t := Option.bind (b_X7_plain g_X7_inRound M a0 x1) (fun q => some (q.1, some (.int q.2)))) (by decide) rfl rfl (nle rfl) (Lof_in 2 _ rfl) (fun X hG hl => ?_) (by rw [h]; rfl)
  subst hG
  subst hl
  unfold b_X7_plain
  refine s_iconst (pc := 0) 0 dX7_plain_0 kc_0 ?_
  refine s_istore_n (pc := 1) 2 dX7_plain_1 rfl (nlt rfl) rfl (L' := [some (.ref (gh (xG X) + a0)), some (.int x1), some (.int 0), none]) rfl ?_
  refine s_iconst (pc := 2) 0 dX7_plain_2 kc_0 ?_
  refine s_istore_n (pc := 3) 3 dX7_plain_3 rfl (nlt rfl) rfl (L' := [some (.ref (gh (xG X) + a0)), some (.int x1), some (.int 0), some (.int 0)]) rfl ?_
  refine s_drop (L' := [some (.ref (gh (xG X) + a0)), some (.int x1), some (.int 0), some (.int 0)]) ?_ (And.intro rfl (And.intro rfl (And.intro rfl (And.intro rfl trivial))))
  refine s_loop1 M (fun s1 : Mem × Int32 × Int32 => s1.1) (fun s1 : Mem × Int32 × Int32 => [some (.ref (gh (xG X) + a0)), some (.int x1), some (.int s1.2.1), some (.int s1.2.2)]) (fun x7 : Mem × Int32 => x7.1) 41 (fun x7 : Mem × Int32 => [some (.ref (gh (xG X) + a0)), some (.int x1), some (.int x7.2), none]) (fun x7 hx8 => ?_) (fun T3 R5 hT4 hR6 s1 hs2 => ?_) (M, 0, 0) Le.rf
  · show S0 X _ x7.1 41 [some (.ref (gh (xG X) + a0)), some (.int x1), some (.int x7.2), none] [] _
    refine s_aload_n (pc := 41) 0 dX7_plain_41 rfl rfl ?_
    refine s_grd (fun o20 => ?_)
    refine s_geti (pc := 42) F_7 8 rfl o20 dX7_plain_42 kf_X7_66 ?_
    refine s_bipush (pc := 45) 40 dX7_plain_45 kb_40 ?_
    refine s_join x7.1 (fun s22 : Mem => s22) 71 (fun s22 : Mem => [some (.ref (gh (xG X) + a0)), none, some (.int x7.2), none]) (fun s22 : Mem => []) (fun s22 hs23 => ?_) (fun j21 hj24 => ?_)
    · show S0 X _ s22 71 [some (.ref (gh (xG X) + a0)), none, some (.int x7.2), none] [] _
      have o25 := hs23.ok o20
      refine s_iload_n (pc := 71) 2 dX7_plain_71 rfl rfl ?_
      refine s_ifeq (pc := 72) 86 dX7_plain_72 rfl ?_ ?_
      · refine s_iconst (pc := 86) 1 dX7_plain_86 kc_1 ?_
        exact s_zret rfl rfl dX7_plain_87
      · refine s_aload_n (pc := 75) 0 dX7_plain_75 rfl rfl ?_
        refine s_geto (pc := 76) F_7 3 rfl o25 dX7_plain_76 kf_X7_26 ?_
        refine s_rvB (fun r26 => ?_)
        refine s_bipush (pc := 79) 11 dX7_plain_79 kb_11 ?_
        refine s_iconst (pc := 81) 0 dX7_plain_81 kc_0 ?_
        refine s_grd (fun o27 => ?_)
        refine s_bind (fun q28 hq29 => ?_)
        have hC30 := t_X9_emit (l := xl X) (G := xG X) hq29
        refine s_callV (pc := 82) (As := [.int 11, .int 0]) (st := []) (nlt rfl) (q := (RX9, TX9, 5)) rfl rfl o27 cl_X9_emit wi_X9_emit wl_X9_emit km_X7_134 rfl rfl (Nat.le_trans (nle rfl : _ ≤ 105) (Nat.le_add_right 105 _)) (nle rfl) (nle rfl) dX7_plain_82 hC30 ?_
        have h31 := hC30.1 X
        have o32 := h31.ok o25
        show S0 X _ q28.1 85 [some (.ref (gh (xG X) + a0)), none, some (.int x7.2), none] [.int q28.2] _
        refine s_pop (pc := 85) dX7_plain_85 rfl ?_
        refine s_iconst (pc := 86) 1 dX7_plain_86 kc_1 ?_
        exact s_zret rfl rfl dX7_plain_87
    · refine s_icne (pc := 47) 61 dX7_plain_47 rfl ?_ ?_
      · refine s_aload_n (pc := 61) 0 dX7_plain_61 rfl rfl ?_
        refine s_iload_n (pc := 62) 1 dX7_plain_62 rfl rfl ?_
        refine s_bind (fun q33 hq34 => ?_)
        have hC35 := t_X7_comparison (l := xl X) (G := xG X) hq34
        refine s_callV (pc := 63) (As := [.int x1]) (st := []) (nlt rfl) (q := (RX7, TX7, 10)) rfl rfl o20 cl_X7_comparison wi_X7_comparison wl_X7_comparison km_X7_152 rfl rfl (Nat.le_trans (nle rfl : _ ≤ 105) (Nat.le_add_right 105 _)) (nle rfl) (nle rfl) dX7_plain_63 hC35 ?_
        have h36 := hC35.1 X
        have o37 := h36.ok o20
        show S0 X _ q33.1 66 [some (.ref (gh (xG X) + a0)), some (.int x1), some (.int x7.2), none] [.int q33.2] _
        refine s_ifne (pc := 66) 71 dX7_plain_66 rfl ?_ ?_
        · exact s_drop (hj24 q33.1 h36) (And.intro rfl (And.intro rfl trivial))
        · refine s_iconst (pc := 69) 0 dX7_plain_69 kc_0 ?_
          exact s_zret rfl rfl dX7_plain_70
      · refine s_aload_n (pc := 50) 0 dX7_plain_50 rfl rfl ?_
        refine s_iload_n (pc := 51) 1 dX7_plain_51 rfl rfl ?_
        refine s_bind (fun q38 hq39 => ?_)
        have hC40 := hg_X7_inRound X rfl rfl x7.1 a0 x1 q38 hq39
        refine s_callV (pc := 52) (As := [.int x1]) (st := []) (nlt rfl) (q := (RX7, TX7, 10)) rfl rfl o20 cl_X7_inRound wi_X7_inRound wl_X7_inRound km_X7_149 rfl rfl (Nat.le_refl _) (nle rfl) (nle rfl) dX7_plain_52 hC40 ?_
        have h41 := hC40.1 X
        have o42 := h41.ok o20
        show S0 X _ q38.1 55 [some (.ref (gh (xG X) + a0)), some (.int x1), some (.int x7.2), none] [.int q38.2] _
        refine s_ifeq (pc := 55) 69 dX7_plain_55 rfl ?_ ?_
        · refine s_iconst (pc := 69) 0 dX7_plain_69 kc_0 ?_
          exact s_zret rfl rfl dX7_plain_70
        · refine s_goto (pc := 58) 71 dX7_plain_58 rfl ?_
          exact s_drop (hj24 q38.1 h41) (And.intro rfl (And.intro rfl trivial))
  · show S0 X _ s1.1 4 [some (.ref (gh (xG X) + a0)), some (.int x1), some (.int s1.2.1), some (.int s1.2.2)] [] _
    refine s_iload_n (pc := 4) 3 dX7_plain_4 rfl rfl ?_
    refine s_sipush (pc := 5) 400 dX7_plain_5 ks_400 ?_
    refine s_icge (pc := 8) 41 dX7_plain_8 rfl ?_ ?_
    · exact s_drop (hR6 (s1.1, s1.2.1) hs2) (And.intro rfl (And.intro rfl (And.intro rfl trivial)))
    · refine s_aload_n (pc := 11) 0 dX7_plain_11 rfl rfl ?_
      refine s_grd (fun o9 => ?_)
      refine s_geti (pc := 12) F_7 8 rfl o9 dX7_plain_12 kf_X7_66 ?_
      refine s_sipush (pc := 15) 265 dX7_plain_15 ks_265 ?_
      refine s_icne (pc := 18) 41 dX7_plain_18 rfl ?_ ?_
      · exact s_drop (hR6 (s1.1, s1.2.1) hs2) (And.intro rfl (And.intro rfl (And.intro rfl trivial)))
      · refine s_iload_n (pc := 21) 2 dX7_plain_21 rfl rfl ?_
        refine s_join s1.1 (fun s11 : Int32 => s1.1) 30 (fun s11 : Int32 => [some (.ref (gh (xG X) + a0)), some (.int x1), none, some (.int s1.2.2)]) (fun s11 : Int32 => [.int s11]) (fun s11 hs12 => ?_) (fun j10 hj13 => ?_)
        · show S0 X _ s1.1 30 [some (.ref (gh (xG X) + a0)), some (.int x1), none, some (.int s1.2.2)] [.int s11] _
          refine s_istore_n (pc := 30) 2 dX7_plain_30 rfl (nlt rfl) rfl (L' := [some (.ref (gh (xG X) + a0)), some (.int x1), some (.int s11), some (.int s1.2.2)]) rfl ?_
          refine s_aload_n (pc := 31) 0 dX7_plain_31 rfl rfl ?_
          refine s_bind (fun q14 hq15 => ?_)
          have hC16 := t_X7_next (l := xl X) (G := xG X) hq15
          refine s_callV (pc := 32) (As := []) (st := []) (nlt rfl) (q := (RX7, TX7, 10)) rfl rfl o9 cl_X7_next wi_X7_next wl_X7_next km_X7_79 rfl rfl (Nat.le_trans (nle rfl : _ ≤ 105) (Nat.le_add_right 105 _)) (nle rfl) (nle rfl) dX7_plain_32 hC16 ?_
          have h17 := hC16.1 X
          have o18 := h17.ok o9
          show S0 X _ q14 35 [some (.ref (gh (xG X) + a0)), some (.int x1), some (.int s11), some (.int s1.2.2)] [] _
          refine s_iinc (pc := 35) dX7_plain_35 rfl (v := s1.2.2 + 1) (congrArg (fun z : Int32 => s1.2.2 + z) kc_1) (nlt rfl) rfl (L' := [some (.ref (gh (xG X) + a0)), some (.int x1), some (.int s11), some (.int (s1.2.2 + 1))]) rfl ?_
          refine s_bv (fun x19 : Int32 => [some (.ref (gh (xG X) + a0)), some (.int x1), some (.int s11), some (.int x19)]) (fun x19 => ?_) rfl
          refine s_goto (pc := 38) 4 dX7_plain_38 rfl ?_
          exact s_drop (hT4 (q14, s11, x19) (hs2.tr h17)) (And.intro rfl (And.intro rfl (And.intro rfl (And.intro rfl trivial))))
        · refine s_ifne (pc := 22) 29 dX7_plain_22 rfl ?_ ?_
          · refine s_iconst (pc := 29) 0 dX7_plain_29 kc_0 ?_
            exact s_drop (hj13 0 Le.rf) (And.intro rfl (And.intro rfl (And.intro rfl trivial)))
          · refine s_iconst (pc := 25) 1 dX7_plain_25 kc_1 ?_
            refine s_goto (pc := 26) 30 dX7_plain_26 rfl ?_
            exact s_drop (hj13 1 Le.rf) (And.intro rfl (And.intro rfl (And.intro rfl trivial)))
noncomputable def b_X7_test (g_X7_both : Mem → Nat → Int32 → Option (Mem × Int32)) (M : Mem) (a0 : Nat) (x1 : Int32) : Option (Mem × Int32) :=
  grd (okO M 7 a0) (Option.bind (g_X7_both M a0 x1) (fun q2 => if q2.2 = 0 then (some (q2.1, 0)) else (Option.bind (loopO (σ := Mem × Int32) (ρ := Mem ⊕ Mem) (fun s7 => if 400 ≤ s7.2 then (some (.inr (.inl s7.1))) else (if (mI s7.1 a0 8) = 263 then (Option.bind (mR s7.1 a0 3) (fun r20 => grd (okO s7.1 9 r20) (Option.bind (f_X9_emit s7.1 r20 12 0) (fun q22 => Option.bind (f_X7_next q22.1 a0) (fun q27 => Option.bind (g_X7_both q27 a0 x1) (fun q32 => if q32.2 = 0 then (some (.inr (.inr q32.1))) else (Option.bind (mR q32.1 a0 3) (fun r37 => grd (okO q32.1 9 r37) (Option.bind (f_X9_aim q32.1 r37 q22.2) (fun q39 => bv (s7.2 + 1 : Int32) (fun x44 => some (.inl (q39, x44))))))))))))) else (some (.inr (.inl s7.1))))) (q2.1, 0)) (Sum.elim (fun (x16 : Mem) => some (x16, 1)) (fun (x18 : Mem) => some (x18, 0))))))
abbrev Y_X7_test (d : Nat) : Sta := (RX7, "test", cX7_test, 4, (some .boolean), 105 + d)
set_option maxRecDepth 100000 in
set_option maxHeartbeats 8000000 in
theorem t_X7_test {d : Nat} {g_X7_both : Mem → Nat → Int32 → Option (Mem × Int32)} {l : Launch} {G : Gh} {M : Mem} {a0 : Nat} {x1 : Int32} {q : Mem × Int32} (hg_X7_both : ∀ X : Ctx, xG X = G → xl X = l → ∀ (M : Mem) (a0 : Nat) (x1 : Int32) (q : Mem × Int32), g_X7_both M a0 x1 = some q → Ctr (xl X) (xG X) yX7_both (Y_X7_both d) M [.ref (gh (xG X) + a0), .int x1] q.1 (some (.int q.2))) (h : b_X7_test g_X7_both M a0 x1 = some q) : Ctr l G yX7_test (Y_X7_test (d + 1)) M [.ref (gh G + a0), .int x1] q.1 (some (.int q.2)) := by
  refine Ctr.of (Y := (Y_X7_test (d + 1))) (L := [some (.ref (gh G + a0)), some (.int x1), none, none]) (t := Option.bind (b_X7_test g_X7_both M a0 x1) (fun q => some (q.1, some (.int q.2)))) (by decide) rfl rfl (nle rfl) (Lof_in 2 _ rfl) (fun X hG hl => ?_) (by rw [h]; rfl)
  subst hG
  subst hl
  unfold b_X7_test
  refine s_aload_n (pc := 0) 0 dX7_test_0 rfl rfl ?_
  refine s_iload_n (pc := 1) 1 dX7_test_1 rfl rfl ?_
  refine s_grd (fun o1 => ?_)
  refine s_bind (fun q2 hq3 => ?_)
  have hC4 := hg_X7_both X rfl rfl M a0 x1 q2 hq3
  refine s_callV (pc := 2) (As := [.int x1]) (st := []) (nlt rfl) (q := (RX7, TX7, 10)) rfl rfl o1 cl_X7_both wi_X7_both wl_X7_both km_X7_140 rfl rfl (Nat.le_refl _) (nle rfl) (nle rfl) dX7_test_2 hC4 ?_
  have h5 := hC4.1 X
  have o6 := h5.ok o1
  show S0 X _ q2.1 5 [some (.ref (gh (xG X) + a0)), some (.int x1), none, none] [.int q2.2] _
  refine s_ifne (pc := 5) 10 dX7_test_5 rfl ?_ ?_
  · refine s_iconst (pc := 10) 0 dX7_test_10 kc_0 ?_
    refine s_istore_n (pc := 11) 2 dX7_test_11 rfl (nlt rfl) rfl (L' := [some (.ref (gh (xG X) + a0)), some (.int x1), some (.int 0), none]) rfl ?_
    refine s_drop (L' := [some (.ref (gh (xG X) + a0)), some (.int x1), some (.int 0), none]) ?_ (And.intro rfl (And.intro rfl (And.intro rfl trivial)))
    refine s_loop2 q2.1 (fun s7 : Mem × Int32 => s7.1) (fun s7 : Mem × Int32 => [some (.ref (gh (xG X) + a0)), some (.int x1), some (.int s7.2), none]) (fun x16 : Mem => x16) 68 (fun x16 : Mem => [none, none, none, none]) (fun x18 : Mem => x18) 52 (fun x18 : Mem => [none, none, none, none]) (fun x16 hx17 => ?_) (fun x18 hx19 => ?_) (fun T9 R11 R13 hT10 hR12 hR14 s7 hs8 => ?_) (q2.1, 0) Le.rf
    · show S0 X _ x16 68 [none, none, none, none] [] _
      refine s_iconst (pc := 68) 1 dX7_test_68 kc_1 ?_
      exact s_zret rfl rfl dX7_test_69
    · show S0 X _ x18 52 [none, none, none, none] [] _
      refine s_iconst (pc := 52) 0 dX7_test_52 kc_0 ?_
      exact s_zret rfl rfl dX7_test_53
    · show S0 X _ s7.1 12 [some (.ref (gh (xG X) + a0)), some (.int x1), some (.int s7.2), none] [] _
      have o15 := hs8.ok o6
      refine s_iload_n (pc := 12) 2 dX7_test_12 rfl rfl ?_
      refine s_sipush (pc := 13) 400 dX7_test_13 ks_400 ?_
      refine s_icge (pc := 16) 68 dX7_test_16 rfl ?_ ?_
      · exact s_drop (hR12 s7.1 hs8) trivial
      · refine s_aload_n (pc := 19) 0 dX7_test_19 rfl rfl ?_
        refine s_geti (pc := 20) F_7 8 rfl o15 dX7_test_20 kf_X7_66 ?_
        refine s_sipush (pc := 23) 263 dX7_test_23 ks_263 ?_
        refine s_icne (pc := 26) 68 dX7_test_26 rfl ?_ ?_
        · exact s_drop (hR12 s7.1 hs8) trivial
        · refine s_aload_n (pc := 29) 0 dX7_test_29 rfl rfl ?_
          refine s_geto (pc := 30) F_7 3 rfl o15 dX7_test_30 kf_X7_26 ?_
          refine s_rvB (fun r20 => ?_)
          refine s_bipush (pc := 33) 12 dX7_test_33 kb_12 ?_
          refine s_iconst (pc := 35) 0 dX7_test_35 kc_0 ?_
          refine s_grd (fun o21 => ?_)
          refine s_bind (fun q22 hq23 => ?_)
          have hC24 := t_X9_emit (l := xl X) (G := xG X) hq23
          refine s_callV (pc := 36) (As := [.int 12, .int 0]) (st := []) (nlt rfl) (q := (RX9, TX9, 5)) rfl rfl o21 cl_X9_emit wi_X9_emit wl_X9_emit km_X7_134 rfl rfl (Nat.le_trans (nle rfl : _ ≤ 105) (Nat.le_add_right 105 _)) (nle rfl) (nle rfl) dX7_test_36 hC24 ?_
          have h25 := hC24.1 X
          have o26 := h25.ok o15
          show S0 X _ q22.1 39 [some (.ref (gh (xG X) + a0)), some (.int x1), some (.int s7.2), none] [.int q22.2] _
          refine s_istore_n (pc := 39) 3 dX7_test_39 rfl (nlt rfl) rfl (L' := [some (.ref (gh (xG X) + a0)), some (.int x1), some (.int s7.2), some (.int q22.2)]) rfl ?_
          refine s_aload_n (pc := 40) 0 dX7_test_40 rfl rfl ?_
          refine s_bind (fun q27 hq28 => ?_)
          have hC29 := t_X7_next (l := xl X) (G := xG X) hq28
          refine s_callV (pc := 41) (As := []) (st := []) (nlt rfl) (q := (RX7, TX7, 10)) rfl rfl o26 cl_X7_next wi_X7_next wl_X7_next km_X7_79 rfl rfl (Nat.le_trans (nle rfl : _ ≤ 105) (Nat.le_add_right 105 _)) (nle rfl) (nle rfl) dX7_test_41 hC29 ?_
          have h30 := hC29.1 X
          have o31 := h30.ok o26
          show S0 X _ q27 44 [some (.ref (gh (xG X) + a0)), some (.int x1), some (.int s7.2), some (.int q22.2)] [] _
          refine s_aload_n (pc := 44) 0 dX7_test_44 rfl rfl ?_
          refine s_iload_n (pc := 45) 1 dX7_test_45 rfl rfl ?_
          refine s_bind (fun q32 hq33 => ?_)
          have hC34 := hg_X7_both X rfl rfl q27 a0 x1 q32 hq33
          refine s_callV (pc := 46) (As := [.int x1]) (st := []) (nlt rfl) (q := (RX7, TX7, 10)) rfl rfl o31 cl_X7_both wi_X7_both wl_X7_both km_X7_140 rfl rfl (Nat.le_refl _) (nle rfl) (nle rfl) dX7_test_46 hC34 ?_
          have h35 := hC34.1 X
          have o36 := h35.ok o31
          show S0 X _ q32.1 49 [some (.ref (gh (xG X) + a0)), some (.int x1), some (.int s7.2), some (.int q22.2)] [.int q32.2] _
          refine s_ifne (pc := 49) 54 dX7_test_49 rfl ?_ ?_
          · refine s_aload_n (pc := 54) 0 dX7_test_54 rfl rfl ?_
            refine s_geto (pc := 55) F_7 3 rfl o36 dX7_test_55 kf_X7_26 ?_
            refine s_rvB (fun r37 => ?_)
            refine s_iload_n (pc := 58) 3 dX7_test_58 rfl rfl ?_
            refine s_grd (fun o38 => ?_)
            refine s_bind (fun q39 hq40 => ?_)
            have hC41 := t_X9_aim (l := xl X) (G := xG X) hq40
            refine s_callV (pc := 59) (As := [.int q22.2]) (st := []) (nlt rfl) (q := (RX9, TX9, 5)) rfl rfl o38 cl_X9_aim wi_X9_aim wl_X9_aim km_X7_143 rfl rfl (Nat.le_trans (nle rfl : _ ≤ 105) (Nat.le_add_right 105 _)) (nle rfl) (nle rfl) dX7_test_59 hC41 ?_
            have h42 := hC41.1 X
            have o43 := h42.ok o36
            show S0 X _ q39 62 [some (.ref (gh (xG X) + a0)), some (.int x1), some (.int s7.2), some (.int q22.2)] [] _
            refine s_iinc (pc := 62) dX7_test_62 rfl (v := s7.2 + 1) (congrArg (fun z : Int32 => s7.2 + z) kc_1) (nlt rfl) rfl (L' := [some (.ref (gh (xG X) + a0)), some (.int x1), some (.int (s7.2 + 1)), some (.int q22.2)]) rfl ?_
            refine s_bv (fun x44 : Int32 => [some (.ref (gh (xG X) + a0)), some (.int x1), some (.int x44), some (.int q22.2)]) (fun x44 => ?_) rfl
            refine s_goto (pc := 65) 12 dX7_test_65 rfl ?_
            exact s_drop (hT10 (q39, x44) (hs8.tr (h25.tr (h30.tr (h35.tr h42))))) (And.intro rfl (And.intro rfl (And.intro rfl trivial)))
          · exact s_drop (hR14 q32.1 (hs8.tr (h25.tr (h30.tr h35)))) trivial
  · refine s_iconst (pc := 8) 0 dX7_test_8 kc_0 ?_
    exact s_zret rfl rfl dX7_test_9
noncomputable def G_X7_both : Nat → (Mem → Nat → Int32 → Option (Mem × Int32)) × (Mem → Nat → Int32 → Option (Mem × Int32)) × (Mem → Nat → Int32 → Option (Mem × Int32)) × (Mem → Nat → Int32 → Option (Mem × Int32))
  | 0 => ((fun _ _ _ => none), (fun _ _ _ => none), (fun _ _ _ => none), (fun _ _ _ => none))
  | d + 1 => (b_X7_both ((G_X7_both d).2.2.1), b_X7_inRound ((G_X7_both d).2.2.2), b_X7_plain ((G_X7_both d).2.1), b_X7_test ((G_X7_both d).1))
noncomputable def f_X7_both (d : Nat) : Mem → Nat → Int32 → Option (Mem × Int32) := (G_X7_both d).1
noncomputable def f_X7_inRound (d : Nat) : Mem → Nat → Int32 → Option (Mem × Int32) := (G_X7_both d).2.1
noncomputable def f_X7_plain (d : Nat) : Mem → Nat → Int32 → Option (Mem × Int32) := (G_X7_both d).2.2.1
noncomputable def f_X7_test (d : Nat) : Mem → Nat → Int32 → Option (Mem × Int32) := (G_X7_both d).2.2.2
theorem tg_X7_both {l : Launch} {G : Gh} : ∀ d : Nat, (∀ (M : Mem) (a0 : Nat) (x1 : Int32) (q : Mem × Int32), f_X7_both d M a0 x1 = some q → Ctr l G yX7_both (Y_X7_both d) M [.ref (gh G + a0), .int x1] q.1 (some (.int q.2))) ∧ (∀ (M : Mem) (a0 : Nat) (x1 : Int32) (q : Mem × Int32), f_X7_inRound d M a0 x1 = some q → Ctr l G yX7_inRound (Y_X7_inRound d) M [.ref (gh G + a0), .int x1] q.1 (some (.int q.2))) ∧ (∀ (M : Mem) (a0 : Nat) (x1 : Int32) (q : Mem × Int32), f_X7_plain d M a0 x1 = some q → Ctr l G yX7_plain (Y_X7_plain d) M [.ref (gh G + a0), .int x1] q.1 (some (.int q.2))) ∧ (∀ (M : Mem) (a0 : Nat) (x1 : Int32) (q : Mem × Int32), f_X7_test d M a0 x1 = some q → Ctr l G yX7_test (Y_X7_test d) M [.ref (gh G + a0), .int x1] q.1 (some (.int q.2))) := by
  intro d
  induction d with
  | zero => refine ⟨?_, ?_, ?_, ?_⟩ <;> (intros; rename_i h; cases h)
  | succ d ih =>
    obtain ⟨h0, h1, h2, h3⟩ := ih
    refine ⟨?_, ?_, ?_, ?_⟩
    · intro M a0 x1 q h
      exact t_X7_both (fun X hG hl => by subst hG; subst hl; exact h2) h
    · intro M a0 x1 q h
      exact t_X7_inRound (fun X hG hl => by subst hG; subst hl; exact h3) h
    · intro M a0 x1 q h
      exact t_X7_plain (fun X hG hl => by subst hG; subst hl; exact h1) h
    · intro M a0 x1 q h
      exact t_X7_test (fun X hG hl => by subst hG; subst hl; exact h0) h
theorem tf_X7_both {l : Launch} {G : Gh} {M : Mem} {a0 : Nat} {x1 : Int32} {q : Mem × Int32} (h : f_X7_both 100 M a0 x1 = some q) : Ctr l G yX7_both (Y_X7_both 100) M [.ref (gh G + a0), .int x1] q.1 (some (.int q.2)) := (tg_X7_both 100).1 _ _ _ _ h
theorem tf_X7_inRound {l : Launch} {G : Gh} {M : Mem} {a0 : Nat} {x1 : Int32} {q : Mem × Int32} (h : f_X7_inRound 100 M a0 x1 = some q) : Ctr l G yX7_inRound (Y_X7_inRound 100) M [.ref (gh G + a0), .int x1] q.1 (some (.int q.2)) := (tg_X7_both 100).2.1 _ _ _ _ h
theorem tf_X7_plain {l : Launch} {G : Gh} {M : Mem} {a0 : Nat} {x1 : Int32} {q : Mem × Int32} (h : f_X7_plain 100 M a0 x1 = some q) : Ctr l G yX7_plain (Y_X7_plain 100) M [.ref (gh G + a0), .int x1] q.1 (some (.int q.2)) := (tg_X7_both 100).2.2.1 _ _ _ _ h
theorem tf_X7_test {l : Launch} {G : Gh} {M : Mem} {a0 : Nat} {x1 : Int32} {q : Mem × Int32} (h : f_X7_test 100 M a0 x1 = some q) : Ctr l G yX7_test (Y_X7_test 100) M [.ref (gh G + a0), .int x1] q.1 (some (.int q.2)) := (tg_X7_both 100).2.2.2 _ _ _ _ h
noncomputable def f_X7_how (M : Mem) (a0 : Nat) : Option (Mem × Int32) :=
  grd (okO M 7 a0) (bv (fun (s3 : Unit) => Option.bind (f_X7_fail M a0) (fun q6 => grd (bl q6.2) (some (q6.1, q6.2)))) (fun j2 => if (mI M a0 8) < 267 then (j2 ()) else (if (mI M a0 8) ≤ 271 then (bv ((mI M a0 8) - 267 : Int32) (fun x12 => Option.bind (mR M a0 3) (fun r13 => grd (okO M 9 r13) (Option.bind (f_X9_set M r13 0 x12) (fun q15 => Option.bind (f_X7_next q15 a0) (fun q20 => bv (fun (s26 : Mem) => if (mI s26 a0 8) = 266 then (Option.bind (f_X7_next s26 a0) (fun q30 => Option.bind (f_X7_sumFor q30 a0 5) (fun q35 => grd (bl q35.2) (some (q35.1, q35.2))))) else (Option.bind (f_X7_fail s26 a0) (fun q41 => grd (bl q41.2) (some (q41.1, q41.2))))) (fun j25 => if x12 = 1 then (Option.bind (f_X7_sumFor q20 a0 4) (fun q47 => if q47.2 = 0 then (some (q47.1, 0)) else (j25 q47.1))) else (j25 q20)))))))) else (j2 ()))))
abbrev Y_X7_how : Sta := (RX7, "how", cX7_how, 2, (some .boolean), 105)
set_option maxRecDepth 100000 in
set_option maxHeartbeats 8000000 in
theorem t_X7_how {l : Launch} {G : Gh} {M : Mem} {a0 : Nat} {q : Mem × Int32} (h : f_X7_how M a0 = some q) : Ctr l G yX7_how Y_X7_how M [.ref (gh G + a0)] q.1 (some (.int q.2)) := by
  refine Ctr.of (Y := Y_X7_how) (L := [some (.ref (gh G + a0)), none]) (t := Option.bind (f_X7_how M a0) (fun q => some (q.1, some (.int q.2)))) (by decide) rfl rfl (nle rfl) (Lof_in 1 _ rfl) (fun X hG hl => ?_) (by rw [h]; rfl)
  subst hG
  subst hl
  unfold f_X7_how
  refine s_aload_n (pc := 0) 0 dX7_how_0 rfl rfl ?_
  refine s_grd (fun o1 => ?_)
  refine s_geti (pc := 1) F_7 8 rfl o1 dX7_how_1 kf_X7_66 ?_
  refine s_sipush (pc := 4) 267 dX7_how_4 ks_267 ?_
  refine s_join M (fun s3 : Unit => M) 20 (fun s3 : Unit => [some (.ref (gh (xG X) + a0)), none]) (fun s3 : Unit => []) (fun s3 hs4 => ?_) (fun j2 hj5 => ?_)
  · show S0 X _ M 20 [some (.ref (gh (xG X) + a0)), none] [] _
    refine s_aload_n (pc := 20) 0 dX7_how_20 rfl rfl ?_
    refine s_bind (fun q6 hq7 => ?_)
    have hC8 := t_X7_fail (l := xl X) (G := xG X) hq7
    refine s_callV (pc := 21) (As := []) (st := []) (nlt rfl) (q := (RX7, TX7, 10)) rfl rfl o1 cl_X7_fail wi_X7_fail wl_X7_fail km_X7_76 rfl rfl (nle rfl) (nle rfl) (nle rfl) dX7_how_21 hC8 ?_
    have h9 := hC8.1 X
    have o10 := h9.ok o1
    show S0 X _ q6.1 24 [some (.ref (gh (xG X) + a0)), none] [.int q6.2] _
    refine s_grd (fun g11 => ?_)
    exact s_zret rfl g11 dX7_how_24
  · refine s_iclt (pc := 7) 20 dX7_how_7 rfl ?_ ?_
    · exact s_drop (hj5 () Le.rf) (And.intro rfl trivial)
    · refine s_aload_n (pc := 10) 0 dX7_how_10 rfl rfl ?_
      refine s_geti (pc := 11) F_7 8 rfl o1 dX7_how_11 kf_X7_66 ?_
      refine s_sipush (pc := 14) 271 dX7_how_14 ks_271 ?_
      refine s_icle (pc := 17) 25 dX7_how_17 rfl ?_ ?_
      · refine s_aload_n (pc := 25) 0 dX7_how_25 rfl rfl ?_
        refine s_geti (pc := 26) F_7 8 rfl o1 dX7_how_26 kf_X7_66 ?_
        refine s_sipush (pc := 29) 267 dX7_how_29 ks_267 ?_
        refine s_isub (pc := 32) dX7_how_32 ?_
        refine s_istore_n (pc := 33) 1 dX7_how_33 rfl (nlt rfl) rfl (L' := [some (.ref (gh (xG X) + a0)), some (.int ((mI M a0 8) - 267))]) rfl ?_
        refine s_bv (fun x12 : Int32 => [some (.ref (gh (xG X) + a0)), some (.int x12)]) (fun x12 => ?_) rfl
        refine s_aload_n (pc := 34) 0 dX7_how_34 rfl rfl ?_
        refine s_geto (pc := 35) F_7 3 rfl o1 dX7_how_35 kf_X7_26 ?_
        refine s_rvB (fun r13 => ?_)
        refine s_iconst (pc := 38) 0 dX7_how_38 kc_0 ?_
        refine s_iload_n (pc := 39) 1 dX7_how_39 rfl rfl ?_
        refine s_grd (fun o14 => ?_)
        refine s_bind (fun q15 hq16 => ?_)
        have hC17 := t_X9_set (l := xl X) (G := xG X) hq16
        refine s_callV (pc := 40) (As := [.int 0, .int x12]) (st := []) (nlt rfl) (q := (RX9, TX9, 5)) rfl rfl o14 cl_X9_set wi_X9_set wl_X9_set km_X7_123 rfl rfl (nle rfl) (nle rfl) (nle rfl) dX7_how_40 hC17 ?_
        have h18 := hC17.1 X
        have o19 := h18.ok o1
        show S0 X _ q15 43 [some (.ref (gh (xG X) + a0)), some (.int x12)] [] _
        refine s_aload_n (pc := 43) 0 dX7_how_43 rfl rfl ?_
        refine s_bind (fun q20 hq21 => ?_)
        have hC22 := t_X7_next (l := xl X) (G := xG X) hq21
        refine s_callV (pc := 44) (As := []) (st := []) (nlt rfl) (q := (RX7, TX7, 10)) rfl rfl o19 cl_X7_next wi_X7_next wl_X7_next km_X7_79 rfl rfl (nle rfl) (nle rfl) (nle rfl) dX7_how_44 hC22 ?_
        have h23 := hC22.1 X
        have o24 := h23.ok o19
        show S0 X _ q20 47 [some (.ref (gh (xG X) + a0)), some (.int x12)] [] _
        refine s_iload_n (pc := 47) 1 dX7_how_47 rfl rfl ?_
        refine s_iconst (pc := 48) 1 dX7_how_48 kc_1 ?_
        refine s_join q20 (fun s26 : Mem => s26) 62 (fun s26 : Mem => [some (.ref (gh (xG X) + a0)), none]) (fun s26 : Mem => []) (fun s26 hs27 => ?_) (fun j25 hj28 => ?_)
        · show S0 X _ s26 62 [some (.ref (gh (xG X) + a0)), none] [] _
          have o29 := hs27.ok o24
          refine s_aload_n (pc := 62) 0 dX7_how_62 rfl rfl ?_
          refine s_geti (pc := 63) F_7 8 rfl o29 dX7_how_63 kf_X7_66 ?_
          refine s_sipush (pc := 66) 266 dX7_how_66 ks_266 ?_
          refine s_iceq (pc := 69) 77 dX7_how_69 rfl ?_ ?_
          · refine s_aload_n (pc := 77) 0 dX7_how_77 rfl rfl ?_
            refine s_bind (fun q30 hq31 => ?_)
            have hC32 := t_X7_next (l := xl X) (G := xG X) hq31
            refine s_callV (pc := 78) (As := []) (st := []) (nlt rfl) (q := (RX7, TX7, 10)) rfl rfl o29 cl_X7_next wi_X7_next wl_X7_next km_X7_79 rfl rfl (nle rfl) (nle rfl) (nle rfl) dX7_how_78 hC32 ?_
            have h33 := hC32.1 X
            have o34 := h33.ok o29
            show S0 X _ q30 81 [some (.ref (gh (xG X) + a0)), none] [] _
            refine s_aload_n (pc := 81) 0 dX7_how_81 rfl rfl ?_
            refine s_iconst (pc := 82) 5 dX7_how_82 kc_5 ?_
            refine s_bind (fun q35 hq36 => ?_)
            have hC37 := t_X7_sumFor (l := xl X) (G := xG X) hq36
            refine s_callV (pc := 83) (As := [.int 5]) (st := []) (nlt rfl) (q := (RX7, TX7, 10)) rfl rfl o34 cl_X7_sumFor wi_X7_sumFor wl_X7_sumFor km_X7_114 rfl rfl (nle rfl) (nle rfl) (nle rfl) dX7_how_83 hC37 ?_
            have h38 := hC37.1 X
            have o39 := h38.ok o34
            show S0 X _ q35.1 86 [some (.ref (gh (xG X) + a0)), none] [.int q35.2] _
            refine s_grd (fun g40 => ?_)
            exact s_zret rfl g40 dX7_how_86
          · refine s_aload_n (pc := 72) 0 dX7_how_72 rfl rfl ?_
            refine s_bind (fun q41 hq42 => ?_)
            have hC43 := t_X7_fail (l := xl X) (G := xG X) hq42
            refine s_callV (pc := 73) (As := []) (st := []) (nlt rfl) (q := (RX7, TX7, 10)) rfl rfl o29 cl_X7_fail wi_X7_fail wl_X7_fail km_X7_76 rfl rfl (nle rfl) (nle rfl) (nle rfl) dX7_how_73 hC43 ?_
            have h44 := hC43.1 X
            have o45 := h44.ok o29
            show S0 X _ q41.1 76 [some (.ref (gh (xG X) + a0)), none] [.int q41.2] _
            refine s_grd (fun g46 => ?_)
            exact s_zret rfl g46 dX7_how_76
        · refine s_icne (pc := 49) 62 dX7_how_49 rfl ?_ ?_
          · exact s_drop (hj28 q20 Le.rf) (And.intro rfl trivial)
          · refine s_aload_n (pc := 52) 0 dX7_how_52 rfl rfl ?_
            refine s_iconst (pc := 53) 4 dX7_how_53 kc_4 ?_
            refine s_bind (fun q47 hq48 => ?_)
            have hC49 := t_X7_sumFor (l := xl X) (G := xG X) hq48
            refine s_callV (pc := 54) (As := [.int 4]) (st := []) (nlt rfl) (q := (RX7, TX7, 10)) rfl rfl o24 cl_X7_sumFor wi_X7_sumFor wl_X7_sumFor km_X7_114 rfl rfl (nle rfl) (nle rfl) (nle rfl) dX7_how_54 hC49 ?_
            have h50 := hC49.1 X
            have o51 := h50.ok o24
            show S0 X _ q47.1 57 [some (.ref (gh (xG X) + a0)), some (.int x12)] [.int q47.2] _
            refine s_ifne (pc := 57) 62 dX7_how_57 rfl ?_ ?_
            · exact s_drop (hj28 q47.1 h50) (And.intro rfl trivial)
            · refine s_iconst (pc := 60) 0 dX7_how_60 kc_0 ?_
              exact s_zret rfl rfl dX7_how_61
      · exact s_drop (hj5 () Le.rf) (And.intro rfl trivial)
noncomputable def f_X12_changed (M : Mem) (a0 : Nat) (x1 : Int32) (x2 : Int32) (x3 : Int32) (x4 : Int32) (x5 : Int32) : Option (Mem × Int32) :=
  grd (okO M 12 a0) (Option.bind (f_X12_makes M a0 x1 x2 x3 x4) (fun q2 => if q2.2 = (-1) then (some (q2.1, (-1))) else (Option.bind (f_X12_sets q2.1 a0 x1 x2 x3 x5) (fun q7 => Option.bind (f_X12_tells q7 a0 2 0) (fun q12 => if q12.2 = 1 then (some (q12.1, (-1))) else (some (q12.1, q2.2)))))))
abbrev Y_X12_changed : Sta := (RX12, "changed", cX12_changed, 7, (some .int), 106)
set_option maxRecDepth 100000 in
set_option maxHeartbeats 8000000 in
theorem t_X12_changed {l : Launch} {G : Gh} {M : Mem} {a0 : Nat} {x1 : Int32} {x2 : Int32} {x3 : Int32} {x4 : Int32} {x5 : Int32} {q : Mem × Int32} (h : f_X12_changed M a0 x1 x2 x3 x4 x5 = some q) : Ctr l G yX12_changed Y_X12_changed M [.ref (gh G + a0), .int x1, .int x2, .int x3, .int x4, .int x5] q.1 (some (.int q.2)) := by
  refine Ctr.of (Y := Y_X12_changed) (L := [some (.ref (gh G + a0)), some (.int x1), some (.int x2), some (.int x3), some (.int x4), some (.int x5), none]) (t := Option.bind (f_X12_changed M a0 x1 x2 x3 x4 x5) (fun q => some (q.1, some (.int q.2)))) (by decide) rfl rfl (nle rfl) (Lof_in 1 _ rfl) (fun X hG hl => ?_) (by rw [h]; rfl)
  subst hG
  subst hl
  unfold f_X12_changed
  refine s_aload_n (pc := 0) 0 dX12_changed_0 rfl rfl ?_
  refine s_iload_n (pc := 1) 1 dX12_changed_1 rfl rfl ?_
  refine s_iload_n (pc := 2) 2 dX12_changed_2 rfl rfl ?_
  refine s_iload_n (pc := 3) 3 dX12_changed_3 rfl rfl ?_
  refine s_iload (pc := 4) dX12_changed_4 rfl ?_
  refine s_grd (fun o1 => ?_)
  refine s_bind (fun q2 hq3 => ?_)
  have hC4 := t_X12_makes (l := xl X) (G := xG X) hq3
  refine s_callV (pc := 6) (As := [.int x1, .int x2, .int x3, .int x4]) (st := []) (nlt rfl) (q := (RX12, TX12, 59)) rfl rfl o1 cl_X12_makes wi_X12_makes wl_X12_makes km_X12_163 rfl rfl (nle rfl) (nle rfl) (nle rfl) dX12_changed_6 hC4 ?_
  have h5 := hC4.1 X
  have o6 := h5.ok o1
  show S0 X _ q2.1 9 [some (.ref (gh (xG X) + a0)), some (.int x1), some (.int x2), some (.int x3), some (.int x4), some (.int x5), none] [.int q2.2] _
  refine s_istore (pc := 9) dX12_changed_9 (nlt rfl) rfl (L' := [some (.ref (gh (xG X) + a0)), some (.int x1), some (.int x2), some (.int x3), some (.int x4), some (.int x5), some (.int q2.2)]) rfl ?_
  refine s_iload (pc := 11) dX12_changed_11 rfl ?_
  refine s_iconst (pc := 13) (-1) dX12_changed_13 kc_m1 ?_
  refine s_icne (pc := 14) 19 dX12_changed_14 rfl ?_ ?_
  · refine s_aload_n (pc := 19) 0 dX12_changed_19 rfl rfl ?_
    refine s_iload_n (pc := 20) 1 dX12_changed_20 rfl rfl ?_
    refine s_iload_n (pc := 21) 2 dX12_changed_21 rfl rfl ?_
    refine s_iload_n (pc := 22) 3 dX12_changed_22 rfl rfl ?_
    refine s_iload (pc := 23) dX12_changed_23 rfl ?_
    refine s_bind (fun q7 hq8 => ?_)
    have hC9 := t_X12_sets (l := xl X) (G := xG X) hq8
    refine s_callV (pc := 25) (As := [.int x1, .int x2, .int x3, .int x5]) (st := []) (nlt rfl) (q := (RX12, TX12, 59)) rfl rfl o6 cl_X12_sets wi_X12_sets wl_X12_sets km_X12_167 rfl rfl (nle rfl) (nle rfl) (nle rfl) dX12_changed_25 hC9 ?_
    have h10 := hC9.1 X
    have o11 := h10.ok o6
    show S0 X _ q7 28 [some (.ref (gh (xG X) + a0)), some (.int x1), some (.int x2), some (.int x3), some (.int x4), some (.int x5), some (.int q2.2)] [] _
    refine s_aload_n (pc := 28) 0 dX12_changed_28 rfl rfl ?_
    refine s_iconst (pc := 29) 2 dX12_changed_29 kc_2 ?_
    refine s_iconst (pc := 30) 0 dX12_changed_30 kc_0 ?_
    refine s_bind (fun q12 hq13 => ?_)
    have hC14 := t_X12_tells (l := xl X) (G := xG X) hq13
    refine s_callV (pc := 31) (As := [.int 2, .int 0]) (st := []) (nlt rfl) (q := (RX12, TX12, 59)) rfl rfl o11 cl_X12_tells wi_X12_tells wl_X12_tells km_X12_171 rfl rfl (nle rfl) (nle rfl) (nle rfl) dX12_changed_31 hC14 ?_
    have h15 := hC14.1 X
    have o16 := h15.ok o11
    show S0 X _ q12.1 34 [some (.ref (gh (xG X) + a0)), some (.int x1), some (.int x2), some (.int x3), some (.int x4), some (.int x5), some (.int q2.2)] [.int q12.2] _
    refine s_iconst (pc := 34) 1 dX12_changed_34 kc_1 ?_
    refine s_icne (pc := 35) 42 dX12_changed_35 rfl ?_ ?_
    · refine s_iload (pc := 42) dX12_changed_42 rfl ?_
      exact s_iret rfl dX12_changed_44
    · refine s_iconst (pc := 38) (-1) dX12_changed_38 kc_m1 ?_
      refine s_goto (pc := 39) 44 dX12_changed_39 rfl ?_
      exact s_iret rfl dX12_changed_44
  · refine s_iconst (pc := 17) (-1) dX12_changed_17 kc_m1 ?_
    exact s_iret rfl dX12_changed_18
