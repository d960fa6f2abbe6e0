set_option maxRecDepth 100000 in
set_option maxHeartbeats 8000000 in
noncomputable def f_X12_tells (M : Mem) (a0 : Nat) (p1 : Int32) (p2 : Int32) : Option (Mem × Int32) :=
  grd (okO M 12 a0) (Option.bind (mR M a0 3) (fun r2 => grd (okO M 14 r2) (grd (vp_in 58 (mL M r2)) (if (mI M r2 (58 : Int32).toNatClampNeg) = (-1) then (some (M, p2)) else (bv (wI M a0 29 0) (fun M5 => Option.bind (mR M5 a0 3) (fun r9 => grd (okO M5 14 r9) (grd (vp_in 58 (mL M5 r9)) (bv (wI M5 a0 26 (400 * (mI M5 r9 (58 : Int32).toNatClampNeg))) (fun M12 => Option.bind (mR M12 a0 3) (fun r16 => Option.bind (mR M12 a0 3) (fun r17 => grd (okO M12 14 r17) (grd (vp_in 58 (mL M12 r17)) (grd (okO M12 14 r16) (grd (vp_in (59 + (mI M12 r17 (58 : Int32).toNatClampNeg)) (mL M12 r16)) (bv (wI M12 a0 27 ((mI M12 a0 26) + (mI M12 r16 (59 + (mI M12 r17 (58 : Int32).toNatClampNeg)).toNatClampNeg))) (fun M22 => Option.bind (loopO (σ := Mem × Int64) (ρ := Mem × Int64) (fun s26 => if (mI s26.1 a0 27) ≤ (mI s26.1 a0 26) then (some (.inr (s26.1, s26.2))) else (Option.bind (f_X12_codeAt s26.1 a0 (mI s26.1 a0 26)) (fun q35 => bv (wI s26.1 a0 28 0) (fun M38 => bv (wI M38 a0 26 ((mI M38 a0 26) + 1)) (fun M42 => bv (fun (s47 : Mem × Int64) => bv (mI s47.1 a0 28 : Int32) (fun x51 => bv (wI s47.1 a0 28 0) (fun M52 => Option.bind (f_X12_passes0 M52 a0 3) (fun q56 => bv (fun (s62 : Mem × Int32) => bv (fun (s67 : Int64) => bv (wI s62.1 a0 26 ((mI s62.1 a0 26) + 1)) (fun M70 => some (.inl (M70, s67)))) (fun j66 => if q35 = p1 then (if s62.2 = 0 then (j66 s26.2) else (if (mI s62.1 a0 28) = 0 then (if x51 = 0 then (bv (fun (s75 : Int64) => j66 s75) (fun j74 => if 0 ≤ (lg_cmp s47.2 0) then (if (lg_cmp s47.2 99) ≤ 0 then (j74 s47.2) else (j74 99)) else (j74 0))) else (j66 s26.2)) else (j66 s26.2))) else (j66 s26.2))) (fun j61 => bv (fun (s79 : Mem) => j61 (s79, 1)) (fun j78 => if q56.2 = 0 then (j78 q56.1) else (Option.bind (f_X12_testOf 100 q56.1 a0 1) (fun q83 => if q83.2 = 0 then (j61 (q83.1, 0)) else (j78 q83.1))))))))) (fun j46 => if q35 = 2 then (j46 (M42, 1)) else (Option.bind (f_X12_sumOf 100 M42 a0 1) (fun q88 => j46 (q88.1, q88.2))))))))) (M22, p2.toInt64)) (fun (x33 : Mem × Int64) => some (x33.1, x33.2.toInt32)))))))))))))))))))
abbrev Y_X12_tells : Sta := (RX12, "tells", cX12_tells, 10, (some .int), 205)
set_option maxRecDepth 100000 in
set_option maxHeartbeats 8000000 in
theorem t_X12_tells {l : Launch} {G : Gh} {M : Mem} {a0 : Nat} {p1 : Int32} {p2 : Int32} {q : Mem × Int32} (h : f_X12_tells M a0 p1 p2 = some q) : Ctr l G yX12_tells Y_X12_tells M [.ref (gh G + a0), .int p1, .int p2] q.1 (some (.int q.2)) := by
  refine Ctr.of (Y := Y_X12_tells) (L := [some (.ref (gh G + a0)), some (.int p1), some (.int p2), none, none, none, none, none, none, none]) (t := Option.bind (f_X12_tells M a0 p1 p2) (fun q => some (q.1, some (.int q.2)))) (by decide) rfl rfl (nle rfl) (Lof_in 7 _ rfl) (fun X hG hl => ?_) (by rw [h]; rfl)
  subst hG
  subst hl
  unfold f_X12_tells
  refine s_aload_n (pc := 0) 0 dX12_tells_0 rfl rfl ?_
  refine s_grd (fun o1 => ?_)
  refine s_geto (pc := 1) F_12 3 rfl o1 dX12_tells_1 kf_X12_20 ?_
  refine s_rvB (fun r2 => ?_)
  refine s_bipush (pc := 4) 58 dX12_tells_4 kb_58 ?_
  refine s_grd (fun o3 => ?_)
  refine s_grd (fun i4 => ?_)
  refine s_iald (pc := 6) o3 i4 dX12_tells_6 ?_
  refine s_iconst (pc := 7) (-1) dX12_tells_7 kc_m1 ?_
  refine s_icne (pc := 8) 13 dX12_tells_8 rfl ?_ ?_
  · refine s_aload_n (pc := 13) 0 dX12_tells_13 rfl rfl ?_
    refine s_iconst (pc := 14) 0 dX12_tells_14 kc_0 ?_
    refine s_puti (pc := 15) F_12 29 rfl o1 rfl rfl (by decide) dX12_tells_15 kf_X12_339 (fun M5 hM6 => ?_)
    have h7 := le_wI hM6
    have o8 := h7.ok o1
    refine s_iload_n (pc := 18) 2 dX12_tells_18 rfl rfl ?_
    refine s_i2l (pc := 19) dX12_tells_19 ?_
    refine s_lstore_n (pc := 20) 3 dX12_tells_20 rfl (nlt rfl) rfl (L' := [some (.ref (gh (xG X) + a0)), some (.int p1), some (.int p2), some (.long p2.toInt64), none, none, none, none, none, none]) rfl ?_
    refine s_aload_n (pc := 21) 0 dX12_tells_21 rfl rfl ?_
    refine s_sipush (pc := 22) 400 dX12_tells_22 ks_400 ?_
    refine s_aload_n (pc := 25) 0 dX12_tells_25 rfl rfl ?_
    refine s_geto (pc := 26) F_12 3 rfl o8 dX12_tells_26 kf_X12_20 ?_
    refine s_rvB (fun r9 => ?_)
    refine s_bipush (pc := 29) 58 dX12_tells_29 kb_58 ?_
    refine s_grd (fun o10 => ?_)
    refine s_grd (fun i11 => ?_)
    refine s_iald (pc := 31) o10 i11 dX12_tells_31 ?_
    refine s_imul (pc := 32) dX12_tells_32 ?_
    refine s_puti (pc := 33) F_12 26 rfl o8 rfl rfl rfl dX12_tells_33 kf_X12_309 (fun M12 hM13 => ?_)
    have h14 := le_wI hM13
    have o15 := h14.ok o8
    refine s_aload_n (pc := 36) 0 dX12_tells_36 rfl rfl ?_
    refine s_aload_n (pc := 37) 0 dX12_tells_37 rfl rfl ?_
    refine s_geti (pc := 38) F_12 26 rfl o15 dX12_tells_38 kf_X12_309 ?_
    refine s_aload_n (pc := 41) 0 dX12_tells_41 rfl rfl ?_
    refine s_geto (pc := 42) F_12 3 rfl o15 dX12_tells_42 kf_X12_20 ?_
    refine s_rvB (fun r16 => ?_)
    refine s_bipush (pc := 45) 59 dX12_tells_45 kb_59 ?_
    refine s_aload_n (pc := 47) 0 dX12_tells_47 rfl rfl ?_
    refine s_geto (pc := 48) F_12 3 rfl o15 dX12_tells_48 kf_X12_20 ?_
    refine s_rvB (fun r17 => ?_)
    refine s_bipush (pc := 51) 58 dX12_tells_51 kb_58 ?_
    refine s_grd (fun o18 => ?_)
    refine s_grd (fun i19 => ?_)
    refine s_iald (pc := 53) o18 i19 dX12_tells_53 ?_
    refine s_iadd (pc := 54) dX12_tells_54 ?_
    refine s_grd (fun o20 => ?_)
    refine s_grd (fun i21 => ?_)
    refine s_iald (pc := 55) o20 i21 dX12_tells_55 ?_
    refine s_iadd (pc := 56) dX12_tells_56 ?_
    refine s_puti (pc := 57) F_12 27 rfl o15 rfl rfl rfl dX12_tells_57 kf_X12_306 (fun M22 hM23 => ?_)
    have h24 := le_wI hM23
    have o25 := h24.ok o15
    refine s_drop (L' := [some (.ref (gh (xG X) + a0)), some (.int p1), none, some (.long p2.toInt64), none, none, none, none, none, none]) ?_ (And.intro rfl (And.intro rfl (And.intro rfl trivial)))
    refine s_loop1 M22 (fun s26 : Mem × Int64 => s26.1) (fun s26 : Mem × Int64 => [some (.ref (gh (xG X) + a0)), some (.int p1), none, some (.long s26.2), none, none, none, none, none, none]) (fun x33 : Mem × Int64 => x33.1) 212 (fun x33 : Mem × Int64 => [none, none, none, some (.long x33.2), none, none, none, none, none, none]) (fun x33 hx34 => ?_) (fun T28 R30 hT29 hR31 s26 hs27 => ?_) (M22, p2.toInt64) Le.rf
    · show S0 X _ x33.1 212 [none, none, none, some (.long x33.2), none, none, none, none, none, none] [] _
      refine s_lload_n (pc := 212) 3 dX12_tells_212 rfl rfl ?_
      refine s_l2i (pc := 213) dX12_tells_213 ?_
      exact s_iret rfl dX12_tells_214
    · show S0 X _ s26.1 60 [some (.ref (gh (xG X) + a0)), some (.int p1), none, some (.long s26.2), none, none, none, none, none, none] [] _
      have o32 := hs27.ok o25
      refine s_aload_n (pc := 60) 0 dX12_tells_60 rfl rfl ?_
      refine s_geti (pc := 61) F_12 26 rfl o32 dX12_tells_61 kf_X12_309 ?_
      refine s_aload_n (pc := 64) 0 dX12_tells_64 rfl rfl ?_
      refine s_geti (pc := 65) F_12 27 rfl o32 dX12_tells_65 kf_X12_306 ?_
      refine s_icge (pc := 68) 212 dX12_tells_68 rfl ?_ ?_
      · exact s_drop (hR31 (s26.1, s26.2) hs27) (And.intro rfl trivial)
      · refine s_aload_n (pc := 71) 0 dX12_tells_71 rfl rfl ?_
        refine s_aload_n (pc := 72) 0 dX12_tells_72 rfl rfl ?_
        refine s_geti (pc := 73) F_12 26 rfl o32 dX12_tells_73 kf_X12_309 ?_
        refine s_bind (fun q35 hq36 => ?_)
        have hC37 := t_X12_codeAt (l := xl X) (G := xG X) hq36
        refine s_callV (pc := 76) (As := [.int (mI s26.1 a0 26)]) (st := []) (nlt rfl) (q := (RX12, TX12, 59)) rfl rfl o32 cl_X12_codeAt wi_X12_codeAt wl_X12_codeAt km_X12_312 rfl rfl (nle rfl) (nle rfl) (nle rfl) dX12_tells_76 hC37 ?_
        show S0 X _ s26.1 79 [some (.ref (gh (xG X) + a0)), some (.int p1), none, some (.long s26.2), none, none, none, none, none, none] [.int q35] _
        refine s_istore (pc := 79) dX12_tells_79 (nlt rfl) rfl (L' := [some (.ref (gh (xG X) + a0)), some (.int p1), none, some (.long s26.2), none, some (.int q35), none, none, none, none]) rfl ?_
        refine s_aload_n (pc := 81) 0 dX12_tells_81 rfl rfl ?_
        refine s_iconst (pc := 82) 0 dX12_tells_82 kc_0 ?_
        refine s_puti (pc := 83) F_12 28 rfl o32 rfl rfl (by decide) dX12_tells_83 kf_X12_319 (fun M38 hM39 => ?_)
        have h40 := le_wI hM39
        have o41 := h40.ok o32
        refine s_aload_n (pc := 86) 0 dX12_tells_86 rfl rfl ?_
        refine s_dup (pc := 87) dX12_tells_87 rfl ?_
        refine s_geti (pc := 88) F_12 26 rfl o41 dX12_tells_88 kf_X12_309 ?_
        refine s_iconst (pc := 91) 1 dX12_tells_91 kc_1 ?_
        refine s_iadd (pc := 92) dX12_tells_92 ?_
        refine s_puti (pc := 93) F_12 26 rfl o41 rfl rfl rfl dX12_tells_93 kf_X12_309 (fun M42 hM43 => ?_)
        have h44 := le_wI hM43
        have o45 := h44.ok o41
        refine s_iload (pc := 96) dX12_tells_96 rfl ?_
        refine s_iconst (pc := 98) 2 dX12_tells_98 kc_2 ?_
        refine s_join M42 (fun s47 : Mem × Int64 => s47.1) 111 (fun s47 : Mem × Int64 => [some (.ref (gh (xG X) + a0)), some (.int p1), none, some (.long s26.2), none, some (.int q35), none, none, none, none]) (fun s47 : Mem × Int64 => [.long s47.2]) (fun s47 hs48 => ?_) (fun j46 hj49 => ?_)
        · show S0 X _ s47.1 111 [some (.ref (gh (xG X) + a0)), some (.int p1), none, some (.long s26.2), none, some (.int q35), none, none, none, none] [.long s47.2] _
          have o50 := hs48.ok o45
          refine s_lstore (pc := 111) dX12_tells_111 (nlt rfl) rfl (L' := [some (.ref (gh (xG X) + a0)), some (.int p1), none, some (.long s26.2), none, some (.int q35), some (.long s47.2), none, none, none]) rfl ?_
          refine s_aload_n (pc := 113) 0 dX12_tells_113 rfl rfl ?_
          refine s_geti (pc := 114) F_12 28 rfl o50 dX12_tells_114 kf_X12_319 ?_
          refine s_istore (pc := 117) dX12_tells_117 (nlt rfl) rfl (L' := [some (.ref (gh (xG X) + a0)), some (.int p1), none, some (.long s26.2), none, some (.int q35), some (.long s47.2), none, some (.int (mI s47.1 a0 28)), none]) rfl ?_
          refine s_bv (fun x51 : Int32 => [some (.ref (gh (xG X) + a0)), some (.int p1), none, some (.long s26.2), none, some (.int q35), some (.long s47.2), none, some (.int x51), none]) (fun x51 => ?_) rfl
          refine s_aload_n (pc := 119) 0 dX12_tells_119 rfl rfl ?_
          refine s_iconst (pc := 120) 0 dX12_tells_120 kc_0 ?_
          refine s_puti (pc := 121) F_12 28 rfl o50 rfl rfl (by decide) dX12_tells_121 kf_X12_319 (fun M52 hM53 => ?_)
          have h54 := le_wI hM53
          have o55 := h54.ok o50
          refine s_aload_n (pc := 124) 0 dX12_tells_124 rfl rfl ?_
          refine s_iconst (pc := 125) 3 dX12_tells_125 kc_3 ?_
          refine s_bind (fun q56 hq57 => ?_)
          have hC58 := t_X12_passes0 (l := xl X) (G := xG X) hq57
          refine s_callV (pc := 126) (As := [.int 3]) (st := []) (nlt rfl) (q := (RX12, TX12, 59)) rfl rfl o55 cl_X12_passes0 wi_X12_passes0 wl_X12_passes0 km_X12_333 rfl rfl (nle rfl) (nle rfl) (nle rfl) dX12_tells_126 hC58 ?_
          have h59 := hC58.1 X
          have o60 := h59.ok o55
          show S0 X _ q56.1 129 [some (.ref (gh (xG X) + a0)), some (.int p1), none, some (.long s26.2), none, some (.int q35), some (.long s47.2), none, some (.int x51), none] [.int q56.2] _
          refine s_join q56.1 (fun s62 : Mem × Int32 => s62.1) 145 (fun s62 : Mem × Int32 => [some (.ref (gh (xG X) + a0)), some (.int p1), none, some (.long s26.2), none, some (.int q35), some (.long s47.2), none, some (.int x51), none]) (fun s62 : Mem × Int32 => [.int s62.2]) (fun s62 hs63 => ?_) (fun j61 hj64 => ?_)
          · show S0 X _ s62.1 145 [some (.ref (gh (xG X) + a0)), some (.int p1), none, some (.long s26.2), none, some (.int q35), some (.long s47.2), none, some (.int x51), none] [.int s62.2] _
            have o65 := hs63.ok o60
            refine s_istore (pc := 145) dX12_tells_145 (nlt rfl) rfl (L' := [some (.ref (gh (xG X) + a0)), some (.int p1), none, some (.long s26.2), none, some (.int q35), some (.long s47.2), none, some (.int x51), some (.int s62.2)]) rfl ?_
            refine s_iload (pc := 147) dX12_tells_147 rfl ?_
            refine s_iload_n (pc := 149) 1 dX12_tells_149 rfl rfl ?_
            refine s_join s62.1 (fun s67 : Int64 => s62.1) 199 (fun s67 : Int64 => [some (.ref (gh (xG X) + a0)), some (.int p1), none, some (.long s67), none, none, none, none, none, none]) (fun s67 : Int64 => []) (fun s67 hs68 => ?_) (fun j66 hj69 => ?_)
            · show S0 X _ s62.1 199 [some (.ref (gh (xG X) + a0)), some (.int p1), none, some (.long s67), none, none, none, none, none, none] [] _
              refine s_aload_n (pc := 199) 0 dX12_tells_199 rfl rfl ?_
              refine s_dup (pc := 200) dX12_tells_200 rfl ?_
              refine s_geti (pc := 201) F_12 26 rfl o65 dX12_tells_201 kf_X12_309 ?_
              refine s_iconst (pc := 204) 1 dX12_tells_204 kc_1 ?_
              refine s_iadd (pc := 205) dX12_tells_205 ?_
              refine s_puti (pc := 206) F_12 26 rfl o65 rfl rfl rfl dX12_tells_206 kf_X12_309 (fun M70 hM71 => ?_)
              have h72 := le_wI hM71
              have o73 := h72.ok o65
              refine s_goto (pc := 209) 60 dX12_tells_209 rfl ?_
              exact s_drop (hT29 (M70, s67) (hs27.tr (h40.tr (h44.tr (hs48.tr (h54.tr (h59.tr (hs63.tr h72)))))))) (And.intro rfl (And.intro rfl (And.intro rfl trivial)))
            · refine s_icne (pc := 150) 199 dX12_tells_150 rfl ?_ ?_
              · exact s_drop (hj69 s26.2 Le.rf) (And.intro rfl (And.intro rfl (And.intro rfl trivial)))
              · refine s_iload (pc := 153) dX12_tells_153 rfl ?_
                refine s_ifeq (pc := 155) 199 dX12_tells_155 rfl ?_ ?_
                · exact s_drop (hj69 s26.2 Le.rf) (And.intro rfl (And.intro rfl (And.intro rfl trivial)))
                · refine s_aload_n (pc := 158) 0 dX12_tells_158 rfl rfl ?_
                  refine s_geti (pc := 159) F_12 28 rfl o65 dX12_tells_159 kf_X12_319 ?_
                  refine s_ifne (pc := 162) 199 dX12_tells_162 rfl ?_ ?_
                  · exact s_drop (hj69 s26.2 Le.rf) (And.intro rfl (And.intro rfl (And.intro rfl trivial)))
                  · refine s_iload (pc := 165) dX12_tells_165 rfl ?_
                    refine s_ifne (pc := 167) 199 dX12_tells_167 rfl ?_ ?_
                    · exact s_drop (hj69 s26.2 Le.rf) (And.intro rfl (And.intro rfl (And.intro rfl trivial)))
                    · refine s_lload (pc := 170) dX12_tells_170 rfl ?_
                      refine s_lconst (pc := 172) 0 dX12_tells_172 kl_0 ?_
                      refine s_lcmp (pc := 173) dX12_tells_173 ?_
                      refine s_join s62.1 (fun s75 : Int64 => s62.1) 198 (fun s75 : Int64 => [some (.ref (gh (xG X) + a0)), some (.int p1), none, none, none, none, none, none, none, none]) (fun s75 : Int64 => [.long s75]) (fun s75 hs76 => ?_) (fun j74 hj77 => ?_)
                      · show S0 X _ s62.1 198 [some (.ref (gh (xG X) + a0)), some (.int p1), none, none, none, none, none, none, none, none] [.long s75] _
                        refine s_lstore_n (pc := 198) 3 dX12_tells_198 rfl (nlt rfl) rfl (L' := [some (.ref (gh (xG X) + a0)), some (.int p1), none, some (.long s75), none, none, none, none, none, none]) rfl ?_
                        exact s_drop (hj69 s75 Le.rf) (And.intro rfl (And.intro rfl (And.intro rfl trivial)))
                      · refine s_ifge (pc := 174) 181 dX12_tells_174 rfl ?_ ?_
                        · refine s_lload (pc := 181) dX12_tells_181 rfl ?_
                          refine s_ldc2 (pc := 183) dX12_tells_183 kl_X12_357 ?_
                          refine s_lcmp (pc := 186) dX12_tells_186 ?_
                          refine s_ifle (pc := 187) 196 dX12_tells_187 rfl ?_ ?_
                          · refine s_lload (pc := 196) dX12_tells_196 rfl ?_
                            exact s_drop (hj77 s47.2 Le.rf) (And.intro rfl (And.intro rfl trivial))
                          · refine s_ldc2 (pc := 190) dX12_tells_190 kl_X12_357 ?_
                            refine s_goto (pc := 193) 198 dX12_tells_193 rfl ?_
                            exact s_drop (hj77 99 Le.rf) (And.intro rfl (And.intro rfl trivial))
                        · refine s_lconst (pc := 177) 0 dX12_tells_177 kl_0 ?_
                          refine s_goto (pc := 178) 198 dX12_tells_178 rfl ?_
                          exact s_drop (hj77 0 Le.rf) (And.intro rfl (And.intro rfl trivial))
          · refine s_join q56.1 (fun s79 : Mem => s79) 140 (fun s79 : Mem => [some (.ref (gh (xG X) + a0)), some (.int p1), none, some (.long s26.2), none, some (.int q35), some (.long s47.2), none, some (.int x51), none]) (fun s79 : Mem => []) (fun s79 hs80 => ?_) (fun j78 hj81 => ?_)
            · show S0 X _ s79 140 [some (.ref (gh (xG X) + a0)), some (.int p1), none, some (.long s26.2), none, some (.int q35), some (.long s47.2), none, some (.int x51), none] [] _
              have o82 := hs80.ok o60
              refine s_iconst (pc := 140) 1 dX12_tells_140 kc_1 ?_
              refine s_goto (pc := 141) 145 dX12_tells_141 rfl ?_
              exact s_drop (hj64 (s79, 1) hs80) (And.intro rfl (And.intro rfl (And.intro rfl (And.intro rfl (And.intro rfl (And.intro rfl trivial))))))
            · refine s_ifeq (pc := 129) 140 dX12_tells_129 rfl ?_ ?_
              · exact s_drop (hj81 q56.1 Le.rf) (And.intro rfl (And.intro rfl (And.intro rfl (And.intro rfl (And.intro rfl (And.intro rfl trivial))))))
              · refine s_aload_n (pc := 132) 0 dX12_tells_132 rfl rfl ?_
                refine s_iconst (pc := 133) 1 dX12_tells_133 kc_1 ?_
                refine s_bind (fun q83 hq84 => ?_)
                have hC85 := tf_X12_testOf (l := xl X) (G := xG X) hq84
                refine s_callV (pc := 134) (As := [.int 1]) (st := []) (nlt rfl) (q := (RX12, TX12, 59)) rfl rfl o60 cl_X12_testOf wi_X12_testOf wl_X12_testOf km_X12_354 rfl rfl (nle rfl) (nle rfl) (nle rfl) dX12_tells_134 hC85 ?_
                have h86 := hC85.1 X
                have o87 := h86.ok o60
                show S0 X _ q83.1 137 [some (.ref (gh (xG X) + a0)), some (.int p1), none, some (.long s26.2), none, some (.int q35), some (.long s47.2), none, some (.int x51), none] [.int q83.2] _
                refine s_ifeq (pc := 137) 144 dX12_tells_137 rfl ?_ ?_
                · refine s_iconst (pc := 144) 0 dX12_tells_144 kc_0 ?_
                  exact s_drop (hj64 (q83.1, 0) h86) (And.intro rfl (And.intro rfl (And.intro rfl (And.intro rfl (And.intro rfl (And.intro rfl trivial))))))
                · exact s_drop (hj81 q83.1 h86) (And.intro rfl (And.intro rfl (And.intro rfl (And.intro rfl (And.intro rfl (And.intro rfl trivial))))))
        · refine s_icne (pc := 99) 106 dX12_tells_99 rfl ?_ ?_
          · refine s_aload_n (pc := 106) 0 dX12_tells_106 rfl rfl ?_
            refine s_iconst (pc := 107) 1 dX12_tells_107 kc_1 ?_
            refine s_bind (fun q88 hq89 => ?_)
            have hC90 := tf_X12_sumOf (l := xl X) (G := xG X) hq89
            refine s_callV (pc := 108) (As := [.int 1]) (st := []) (nlt rfl) (q := (RX12, TX12, 59)) rfl rfl o45 cl_X12_sumOf wi_X12_sumOf wl_X12_sumOf km_X12_336 rfl rfl (nle rfl) (nle rfl) (nle rfl) dX12_tells_108 hC90 ?_
            have h91 := hC90.1 X
            have o92 := h91.ok o45
            show S0 X _ q88.1 111 [some (.ref (gh (xG X) + a0)), some (.int p1), none, some (.long s26.2), none, some (.int q35), none, none, none, none] [.long q88.2] _
            exact s_drop (hj49 (q88.1, q88.2) h91) (And.intro rfl (And.intro rfl (And.intro rfl (And.intro rfl trivial))))
          · refine s_lconst (pc := 102) 1 dX12_tells_102 kl_1 ?_
            refine s_goto (pc := 103) 111 dX12_tells_103 rfl ?_
            exact s_drop (hj49 (M42, 1) Le.rf) (And.intro rfl (And.intro rfl (And.intro rfl (And.intro rfl trivial))))
  · refine s_iload_n (pc := 11) 2 dX12_tells_11 rfl rfl ?_
    exact s_iret rfl dX12_tells_12
set_option maxRecDepth 100000 in
set_option maxHeartbeats 8000000 in
noncomputable def f_X7_condition (M : Mem) (a0 : Nat) : Option (Mem × Int32) :=
  grd (okO M 7 a0) (if (mI M a0 8) = 262 then (Option.bind (f_X7_next M a0) (fun q2 => Option.bind (mR q2 a0 3) (fun r7 => Option.bind (mR q2 a0 3) (fun r8 => grd (okO q2 9 r8) (grd (okO q2 9 r7) (Option.bind (f_X9_set q2 r7 2 (mI q2 r8 3)) (fun q11 => Option.bind (f_X7_test 100 q11 a0 0) (fun q16 => if q16.2 = 0 then (some (q16.1, 0)) else (Option.bind (mR q16.1 a0 3) (fun r21 => grd (okO q16.1 9 r21) (Option.bind (f_X9_emit q16.1 r21 0 0) (fun q23 => some (q23.1, 1))))))))))))) else (some (M, 1)))
abbrev Y_X7_condition : Sta := (RX7, "condition", cX7_condition, 1, (some .boolean), 205)
set_option maxRecDepth 100000 in
set_option maxHeartbeats 8000000 in
theorem t_X7_condition {l : Launch} {G : Gh} {M : Mem} {a0 : Nat} {q : Mem × Int32} (h : f_X7_condition M a0 = some q) : Ctr l G yX7_condition Y_X7_condition M [.ref (gh G + a0)] q.1 (some (.int q.2)) := by
  refine Ctr.of (Y := Y_X7_condition) (L := [some (.ref (gh G + a0))]) (t := Option.bind (f_X7_condition M a0) (fun q => some (q.1, some (.int q.2)))) (by decide) rfl rfl (nle rfl) (Lof_in 0 _ rfl) (fun X hG hl => ?_) (by rw [h]; rfl)
  subst hG
  subst hl
  unfold f_X7_condition
  refine s_aload_n (pc := 0) 0 dX7_condition_0 rfl rfl ?_
  refine s_grd (fun o1 => ?_)
  refine s_geti (pc := 1) F_7 8 rfl o1 dX7_condition_1 kf_X7_66 ?_
  refine s_sipush (pc := 4) 262 dX7_condition_4 ks_262 ?_
  refine s_iceq (pc := 7) 12 dX7_condition_7 rfl ?_ ?_
  · refine s_aload_n (pc := 12) 0 dX7_condition_12 rfl rfl ?_
    refine s_bind (fun q2 hq3 => ?_)
    have hC4 := t_X7_next (l := xl X) (G := xG X) hq3
    refine s_callV (pc := 13) (As := []) (st := []) (nlt rfl) (q := (RX7, TX7, 10)) rfl rfl o1 cl_X7_next wi_X7_next wl_X7_next km_X7_79 rfl rfl (nle rfl) (nle rfl) (nle rfl) dX7_condition_13 hC4 ?_
    have h5 := hC4.1 X
    have o6 := h5.ok o1
    show S0 X _ q2 16 [some (.ref (gh (xG X) + a0))] [] _
    refine s_aload_n (pc := 16) 0 dX7_condition_16 rfl rfl ?_
    refine s_geto (pc := 17) F_7 3 rfl o6 dX7_condition_17 kf_X7_26 ?_
    refine s_rvB (fun r7 => ?_)
    refine s_iconst (pc := 20) 2 dX7_condition_20 kc_2 ?_
    refine s_aload_n (pc := 21) 0 dX7_condition_21 rfl rfl ?_
    refine s_geto (pc := 22) F_7 3 rfl o6 dX7_condition_22 kf_X7_26 ?_
    refine s_rvB (fun r8 => ?_)
    refine s_grd (fun o9 => ?_)
    refine s_geti (pc := 25) F_9 3 rfl o9 dX7_condition_25 kf_X7_126 ?_
    refine s_grd (fun o10 => ?_)
    refine s_bind (fun q11 hq12 => ?_)
    have hC13 := t_X9_set (l := xl X) (G := xG X) hq12
    refine s_callV (pc := 28) (As := [.int 2, .int (mI q2 r8 3)]) (st := []) (nlt rfl) (q := (RX9, TX9, 5)) rfl rfl o10 cl_X9_set wi_X9_set wl_X9_set km_X7_123 rfl rfl (nle rfl) (nle rfl) (nle rfl) dX7_condition_28 hC13 ?_
    have h14 := hC13.1 X
    have o15 := h14.ok o6
    show S0 X _ q11 31 [some (.ref (gh (xG X) + a0))] [] _
    refine s_aload_n (pc := 31) 0 dX7_condition_31 rfl rfl ?_
    refine s_iconst (pc := 32) 0 dX7_condition_32 kc_0 ?_
    refine s_bind (fun q16 hq17 => ?_)
    have hC18 := tf_X7_test (l := xl X) (G := xG X) hq17
    refine s_callV (pc := 33) (As := [.int 0]) (st := []) (nlt rfl) (q := (RX7, TX7, 10)) rfl rfl o15 cl_X7_test wi_X7_test wl_X7_test km_X7_129 rfl rfl (nle rfl) (nle rfl) (nle rfl) dX7_condition_33 hC18 ?_
    have h19 := hC18.1 X
    have o20 := h19.ok o15
    show S0 X _ q16.1 36 [some (.ref (gh (xG X) + a0))] [.int q16.2] _
    refine s_ifne (pc := 36) 41 dX7_condition_36 rfl ?_ ?_
    · refine s_aload_n (pc := 41) 0 dX7_condition_41 rfl rfl ?_
      refine s_geto (pc := 42) F_7 3 rfl o20 dX7_condition_42 kf_X7_26 ?_
      refine s_rvB (fun r21 => ?_)
      refine s_iconst (pc := 45) 0 dX7_condition_45 kc_0 ?_
      refine s_iconst (pc := 46) 0 dX7_condition_46 kc_0 ?_
      refine s_grd (fun o22 => ?_)
      refine s_bind (fun q23 hq24 => ?_)
      have hC25 := t_X9_emit (l := xl X) (G := xG X) hq24
      refine s_callV (pc := 47) (As := [.int 0, .int 0]) (st := []) (nlt rfl) (q := (RX9, TX9, 5)) rfl rfl o22 cl_X9_emit wi_X9_emit wl_X9_emit km_X7_134 rfl rfl (nle rfl) (nle rfl) (nle rfl) dX7_condition_47 hC25 ?_
      have h26 := hC25.1 X
      have o27 := h26.ok o20
      show S0 X _ q23.1 50 [some (.ref (gh (xG X) + a0))] [.int q23.2] _
      refine s_pop (pc := 50) dX7_condition_50 rfl ?_
      refine s_iconst (pc := 51) 1 dX7_condition_51 kc_1 ?_
      exact s_zret rfl rfl dX7_condition_52
    · refine s_iconst (pc := 39) 0 dX7_condition_39 kc_0 ?_
      exact s_zret rfl rfl dX7_condition_40
  · refine s_iconst (pc := 10) 1 dX7_condition_10 kc_1 ?_
    exact s_zret rfl rfl dX7_condition_11
set_option maxRecDepth 100000 in
set_option maxHeartbeats 8000000 in
noncomputable def f_X12_changed (M : Mem) (a0 : Nat) (p1 : Int32) (p2 : Int32) (p3 : Int32) (p4 : Int32) (p5 : Int32) : Option (Mem × Int32) :=
  grd (okO M 12 a0) (Option.bind (f_X12_makes M a0 p1 p2 p3 p4) (fun q2 => if q2.2 = (-1) then (some (q2.1, (-1))) else (Option.bind (f_X12_sets q2.1 a0 p1 p2 p3 p5) (fun q7 => Option.bind (f_X12_tells q7 a0 2 0) (fun q12 => if q12.2 = 1 then (some (q12.1, (-1))) else (some (q12.1, q2.2)))))))
abbrev Y_X12_changed : Sta := (RX12, "changed", cX12_changed, 7, (some .int), 206)
set_option maxRecDepth 100000 in
set_option maxHeartbeats 8000000 in
theorem t_X12_changed {l : Launch} {G : Gh} {M : Mem} {a0 : Nat} {p1 : Int32} {p2 : Int32} {p3 : Int32} {p4 : Int32} {p5 : Int32} {q : Mem × Int32} (h : f_X12_changed M a0 p1 p2 p3 p4 p5 = some q) : Ctr l G yX12_changed Y_X12_changed M [.ref (gh G + a0), .int p1, .int p2, .int p3, .int p4, .int p5] q.1 (some (.int q.2)) := by
  refine Ctr.of (Y := Y_X12_changed) (L := [some (.ref (gh G + a0)), some (.int p1), some (.int p2), some (.int p3), some (.int p4), some (.int p5), none]) (t := Option.bind (f_X12_changed M a0 p1 p2 p3 p4 p5) (fun q => some (q.1, some (.int q.2)))) (by decide) rfl rfl (nle rfl) (Lof_in 1 _ rfl) (fun X hG hl => ?_) (by rw [h]; rfl)
  subst hG
  subst hl
  unfold f_X12_changed
  refine s_aload_n (pc := 0) 0 dX12_changed_0 rfl rfl ?_
  refine s_iload_n (pc := 1) 1 dX12_changed_1 rfl rfl ?_
  refine s_iload_n (pc := 2) 2 dX12_changed_2 rfl rfl ?_
  refine s_iload_n (pc := 3) 3 dX12_changed_3 rfl rfl ?_
  refine s_iload (pc := 4) dX12_changed_4 rfl ?_
  refine s_grd (fun o1 => ?_)
  refine s_bind (fun q2 hq3 => ?_)
  have hC4 := t_X12_makes (l := xl X) (G := xG X) hq3
  refine s_callV (pc := 6) (As := [.int p1, .int p2, .int p3, .int p4]) (st := []) (nlt rfl) (q := (RX12, TX12, 59)) rfl rfl o1 cl_X12_makes wi_X12_makes wl_X12_makes km_X12_163 rfl rfl (nle rfl) (nle rfl) (nle rfl) dX12_changed_6 hC4 ?_
  have h5 := hC4.1 X
  have o6 := h5.ok o1
  show S0 X _ q2.1 9 [some (.ref (gh (xG X) + a0)), some (.int p1), some (.int p2), some (.int p3), some (.int p4), some (.int p5), none] [.int q2.2] _
  refine s_istore (pc := 9) dX12_changed_9 (nlt rfl) rfl (L' := [some (.ref (gh (xG X) + a0)), some (.int p1), some (.int p2), some (.int p3), some (.int p4), some (.int p5), some (.int q2.2)]) rfl ?_
  refine s_iload (pc := 11) dX12_changed_11 rfl ?_
  refine s_iconst (pc := 13) (-1) dX12_changed_13 kc_m1 ?_
  refine s_icne (pc := 14) 19 dX12_changed_14 rfl ?_ ?_
  · refine s_aload_n (pc := 19) 0 dX12_changed_19 rfl rfl ?_
    refine s_iload_n (pc := 20) 1 dX12_changed_20 rfl rfl ?_
    refine s_iload_n (pc := 21) 2 dX12_changed_21 rfl rfl ?_
    refine s_iload_n (pc := 22) 3 dX12_changed_22 rfl rfl ?_
    refine s_iload (pc := 23) dX12_changed_23 rfl ?_
    refine s_bind (fun q7 hq8 => ?_)
    have hC9 := t_X12_sets (l := xl X) (G := xG X) hq8
    refine s_callV (pc := 25) (As := [.int p1, .int p2, .int p3, .int p5]) (st := []) (nlt rfl) (q := (RX12, TX12, 59)) rfl rfl o6 cl_X12_sets wi_X12_sets wl_X12_sets km_X12_167 rfl rfl (nle rfl) (nle rfl) (nle rfl) dX12_changed_25 hC9 ?_
    have h10 := hC9.1 X
    have o11 := h10.ok o6
    show S0 X _ q7 28 [some (.ref (gh (xG X) + a0)), some (.int p1), some (.int p2), some (.int p3), some (.int p4), some (.int p5), some (.int q2.2)] [] _
    refine s_aload_n (pc := 28) 0 dX12_changed_28 rfl rfl ?_
    refine s_iconst (pc := 29) 2 dX12_changed_29 kc_2 ?_
    refine s_iconst (pc := 30) 0 dX12_changed_30 kc_0 ?_
    refine s_bind (fun q12 hq13 => ?_)
    have hC14 := t_X12_tells (l := xl X) (G := xG X) hq13
    refine s_callV (pc := 31) (As := [.int 2, .int 0]) (st := []) (nlt rfl) (q := (RX12, TX12, 59)) rfl rfl o11 cl_X12_tells wi_X12_tells wl_X12_tells km_X12_171 rfl rfl (nle rfl) (nle rfl) (nle rfl) dX12_changed_31 hC14 ?_
    have h15 := hC14.1 X
    have o16 := h15.ok o11
    show S0 X _ q12.1 34 [some (.ref (gh (xG X) + a0)), some (.int p1), some (.int p2), some (.int p3), some (.int p4), some (.int p5), some (.int q2.2)] [.int q12.2] _
    refine s_iconst (pc := 34) 1 dX12_changed_34 kc_1 ?_
    refine s_icne (pc := 35) 42 dX12_changed_35 rfl ?_ ?_
    · refine s_iload (pc := 42) dX12_changed_42 rfl ?_
      exact s_iret rfl dX12_changed_44
    · refine s_iconst (pc := 38) (-1) dX12_changed_38 kc_m1 ?_
      refine s_goto (pc := 39) 44 dX12_changed_39 rfl ?_
      exact s_iret rfl dX12_changed_44
  · refine s_iconst (pc := 17) (-1) dX12_changed_17 kc_m1 ?_
    exact s_iret rfl dX12_changed_18
set_option maxRecDepth 100000 in
set_option maxHeartbeats 8000000 in
noncomputable def f_X12_readClause (M : Mem) (a0 : Nat) : Option Mem :=
  grd (okO M 12 a0) (Option.bind (f_X12_takes0 M a0 1) (fun q2 => bv (fun (s8 : Mem) => Option.bind (f_X12_takes0 s8 a0 3) (fun q12 => if q12.2 = 0 then (some q12.1) else (Option.bind (f_X12_readTest 100 q12.1 a0 0) (fun q17 => some q17)))) (fun j7 => if q2.2 = 0 then (Option.bind (f_X12_must q2.1 a0 2) (fun q22 => j7 q22)) else (Option.bind (f_X12_readSum 100 q2.1 a0 0) (fun q27 => j7 q27)))))
abbrev Y_X12_readClause : Sta := (RX12, "readClause", cX12_readClause, 1, none, 206)
set_option maxRecDepth 100000 in
set_option maxHeartbeats 8000000 in
theorem t_X12_readClause {l : Launch} {G : Gh} {M : Mem} {a0 : Nat} {q : Mem} (h : f_X12_readClause M a0 = some q) : Ctr l G yX12_readClause Y_X12_readClause M [.ref (gh G + a0)] q (none) := by
  refine Ctr.of (Y := Y_X12_readClause) (L := [some (.ref (gh G + a0))]) (t := Option.bind (f_X12_readClause M a0) (fun q => some (q, (none : Option Value)))) (by decide) rfl rfl (nle rfl) (Lof_in 0 _ rfl) (fun X hG hl => ?_) (by rw [h]; rfl)
  subst hG
  subst hl
  unfold f_X12_readClause
  refine s_aload_n (pc := 0) 0 dX12_readClause_0 rfl rfl ?_
  refine s_iconst (pc := 1) 1 dX12_readClause_1 kc_1 ?_
  refine s_grd (fun o1 => ?_)
  refine s_bind (fun q2 hq3 => ?_)
  have hC4 := t_X12_takes0 (l := xl X) (G := xG X) hq3
  refine s_callV (pc := 2) (As := [.int 1]) (st := []) (nlt rfl) (q := (RX12, TX12, 59)) rfl rfl o1 cl_X12_takes0 wi_X12_takes0 wl_X12_takes0 km_X12_240 rfl rfl (nle rfl) (nle rfl) (nle rfl) dX12_readClause_2 hC4 ?_
  have h5 := hC4.1 X
  have o6 := h5.ok o1
  show S0 X _ q2.1 5 [some (.ref (gh (xG X) + a0))] [.int q2.2] _
  refine s_join q2.1 (fun s8 : Mem => s8) 21 (fun s8 : Mem => [some (.ref (gh (xG X) + a0))]) (fun s8 : Mem => []) (fun s8 hs9 => ?_) (fun j7 hj10 => ?_)
  · show S0 X _ s8 21 [some (.ref (gh (xG X) + a0))] [] _
    have o11 := hs9.ok o6
    refine s_aload_n (pc := 21) 0 dX12_readClause_21 rfl rfl ?_
    refine s_iconst (pc := 22) 3 dX12_readClause_22 kc_3 ?_
    refine s_bind (fun q12 hq13 => ?_)
    have hC14 := t_X12_takes0 (l := xl X) (G := xG X) hq13
    refine s_callV (pc := 23) (As := [.int 3]) (st := []) (nlt rfl) (q := (RX12, TX12, 59)) rfl rfl o11 cl_X12_takes0 wi_X12_takes0 wl_X12_takes0 km_X12_240 rfl rfl (nle rfl) (nle rfl) (nle rfl) dX12_readClause_23 hC14 ?_
    have h15 := hC14.1 X
    have o16 := h15.ok o11
    show S0 X _ q12.1 26 [some (.ref (gh (xG X) + a0))] [.int q12.2] _
    refine s_ifeq (pc := 26) 34 dX12_readClause_26 rfl ?_ ?_
    · exact s_vret rfl dX12_readClause_34
    · refine s_aload_n (pc := 29) 0 dX12_readClause_29 rfl rfl ?_
      refine s_iconst (pc := 30) 0 dX12_readClause_30 kc_0 ?_
      refine s_bind (fun q17 hq18 => ?_)
      have hC19 := tf_X12_readTest (l := xl X) (G := xG X) hq18
      refine s_callV (pc := 31) (As := [.int 0]) (st := []) (nlt rfl) (q := (RX12, TX12, 59)) rfl rfl o16 cl_X12_readTest wi_X12_readTest wl_X12_readTest km_X12_259 rfl rfl (nle rfl) (nle rfl) (nle rfl) dX12_readClause_31 hC19 ?_
      have h20 := hC19.1 X
      have o21 := h20.ok o16
      show S0 X _ q17 34 [some (.ref (gh (xG X) + a0))] [] _
      exact s_vret rfl dX12_readClause_34
  · refine s_ifeq (pc := 5) 16 dX12_readClause_5 rfl ?_ ?_
    · refine s_aload_n (pc := 16) 0 dX12_readClause_16 rfl rfl ?_
      refine s_iconst (pc := 17) 2 dX12_readClause_17 kc_2 ?_
      refine s_bind (fun q22 hq23 => ?_)
      have hC24 := t_X12_must (l := xl X) (G := xG X) hq23
      refine s_callV (pc := 18) (As := [.int 2]) (st := []) (nlt rfl) (q := (RX12, TX12, 59)) rfl rfl o6 cl_X12_must wi_X12_must wl_X12_must km_X12_256 rfl rfl (nle rfl) (nle rfl) (nle rfl) dX12_readClause_18 hC24 ?_
      have h25 := hC24.1 X
      have o26 := h25.ok o6
      show S0 X _ q22 21 [some (.ref (gh (xG X) + a0))] [] _
      exact s_drop (hj10 q22 h25) (And.intro rfl trivial)
    · refine s_aload_n (pc := 8) 0 dX12_readClause_8 rfl rfl ?_
      refine s_iconst (pc := 9) 0 dX12_readClause_9 kc_0 ?_
      refine s_bind (fun q27 hq28 => ?_)
      have hC29 := tf_X12_readSum (l := xl X) (G := xG X) hq28
      refine s_callV (pc := 10) (As := [.int 0]) (st := []) (nlt rfl) (q := (RX12, TX12, 59)) rfl rfl o6 cl_X12_readSum wi_X12_readSum wl_X12_readSum km_X12_253 rfl rfl (nle rfl) (nle rfl) (nle rfl) dX12_readClause_10 hC29 ?_
      have h30 := hC29.1 X
      have o31 := h30.ok o6
      show S0 X _ q27 13 [some (.ref (gh (xG X) + a0))] [] _
      refine s_goto (pc := 13) 21 dX12_readClause_13 rfl ?_
      exact s_drop (hj10 q27 h30) (And.intro rfl trivial)
set_option maxRecDepth 100000 in
set_option maxHeartbeats 8000000 in
noncomputable def f_X12_readOrder (M : Mem) (a0 : Nat) : Option Mem :=
  grd (okO M 12 a0) (Option.bind (f_X12_takes0 M a0 19) (fun q2 => bv (fun (s8 : Mem) => Option.bind (f_X12_takes0 s8 a0 26) (fun q12 => bv (fun (s18 : Mem) => Option.bind (f_X12_takes0 s18 a0 3) (fun q22 => if q22.2 = 0 then (some q22.1) else (Option.bind (f_X12_readTest 100 q22.1 a0 0) (fun q27 => some q27)))) (fun j17 => if q12.2 = 0 then (j17 q12.1) else (Option.bind (f_X12_mustNumber q12.1 a0 1 20) (fun q32 => j17 q32))))) (fun j7 => if q2.2 = 0 then (Option.bind (f_X12_must q2.1 a0 13) (fun q37 => Option.bind (f_X12_readSum 100 q37 a0 0) (fun q42 => j7 q42))) else (Option.bind (f_X12_readSum 100 q2.1 a0 0) (fun q47 => Option.bind (f_X12_takes0 q47 a0 24) (fun q52 => bv (fun (s58 : Mem) => Option.bind (f_X12_must s58 a0 25) (fun q62 => Option.bind (f_X12_readSum 100 q62 a0 0) (fun q67 => j7 q67))) (fun j57 => if q52.2 = 0 then (Option.bind (f_X12_takes0 q52.1 a0 20) (fun q72 => if q72.2 = 0 then (Option.bind (f_X12_takes0 q72.1 a0 21) (fun q77 => if q77.2 = 0 then (Option.bind (f_X12_takes0 q77.1 a0 22) (fun q82 => if q82.2 = 0 then (Option.bind (f_X12_must q82.1 a0 23) (fun q87 => j57 q87)) else (j57 q82.1))) else (j57 q77.1))) else (j57 q72.1))) else (Option.bind (f_X12_readSum 100 q52.1 a0 0) (fun q92 => j57 q92)))))))))
abbrev Y_X12_readOrder : Sta := (RX12, "readOrder", cX12_readOrder, 1, none, 206)
set_option maxRecDepth 100000 in
set_option maxHeartbeats 8000000 in
theorem t_X12_readOrder {l : Launch} {G : Gh} {M : Mem} {a0 : Nat} {q : Mem} (h : f_X12_readOrder M a0 = some q) : Ctr l G yX12_readOrder Y_X12_readOrder M [.ref (gh G + a0)] q (none) := by
  refine Ctr.of (Y := Y_X12_readOrder) (L := [some (.ref (gh G + a0))]) (t := Option.bind (f_X12_readOrder M a0) (fun q => some (q, (none : Option Value)))) (by decide) rfl rfl (nle rfl) (Lof_in 0 _ rfl) (fun X hG hl => ?_) (by rw [h]; rfl)
  subst hG
  subst hl
  unfold f_X12_readOrder
  refine s_aload_n (pc := 0) 0 dX12_readOrder_0 rfl rfl ?_
  refine s_bipush (pc := 1) 19 dX12_readOrder_1 kb_19 ?_
  refine s_grd (fun o1 => ?_)
  refine s_bind (fun q2 hq3 => ?_)
  have hC4 := t_X12_takes0 (l := xl X) (G := xG X) hq3
  refine s_callV (pc := 3) (As := [.int 19]) (st := []) (nlt rfl) (q := (RX12, TX12, 59)) rfl rfl o1 cl_X12_takes0 wi_X12_takes0 wl_X12_takes0 km_X12_240 rfl rfl (nle rfl) (nle rfl) (nle rfl) dX12_readOrder_3 hC4 ?_
  have h5 := hC4.1 X
  have o6 := h5.ok o1
  show S0 X _ q2.1 6 [some (.ref (gh (xG X) + a0))] [.int q2.2] _
  refine s_join q2.1 (fun s8 : Mem => s8) 89 (fun s8 : Mem => [some (.ref (gh (xG X) + a0))]) (fun s8 : Mem => []) (fun s8 hs9 => ?_) (fun j7 hj10 => ?_)
  · show S0 X _ s8 89 [some (.ref (gh (xG X) + a0))] [] _
    have o11 := hs9.ok o6
    refine s_aload_n (pc := 89) 0 dX12_readOrder_89 rfl rfl ?_
    refine s_bipush (pc := 90) 26 dX12_readOrder_90 kb_26 ?_
    refine s_bind (fun q12 hq13 => ?_)
    have hC14 := t_X12_takes0 (l := xl X) (G := xG X) hq13
    refine s_callV (pc := 92) (As := [.int 26]) (st := []) (nlt rfl) (q := (RX12, TX12, 59)) rfl rfl o11 cl_X12_takes0 wi_X12_takes0 wl_X12_takes0 km_X12_240 rfl rfl (nle rfl) (nle rfl) (nle rfl) dX12_readOrder_92 hC14 ?_
    have h15 := hC14.1 X
    have o16 := h15.ok o11
    show S0 X _ q12.1 95 [some (.ref (gh (xG X) + a0))] [.int q12.2] _
    refine s_join q12.1 (fun s18 : Mem => s18) 105 (fun s18 : Mem => [some (.ref (gh (xG X) + a0))]) (fun s18 : Mem => []) (fun s18 hs19 => ?_) (fun j17 hj20 => ?_)
    · show S0 X _ s18 105 [some (.ref (gh (xG X) + a0))] [] _
      have o21 := hs19.ok o16
      refine s_aload_n (pc := 105) 0 dX12_readOrder_105 rfl rfl ?_
      refine s_iconst (pc := 106) 3 dX12_readOrder_106 kc_3 ?_
      refine s_bind (fun q22 hq23 => ?_)
      have hC24 := t_X12_takes0 (l := xl X) (G := xG X) hq23
      refine s_callV (pc := 107) (As := [.int 3]) (st := []) (nlt rfl) (q := (RX12, TX12, 59)) rfl rfl o21 cl_X12_takes0 wi_X12_takes0 wl_X12_takes0 km_X12_240 rfl rfl (nle rfl) (nle rfl) (nle rfl) dX12_readOrder_107 hC24 ?_
      have h25 := hC24.1 X
      have o26 := h25.ok o21
      show S0 X _ q22.1 110 [some (.ref (gh (xG X) + a0))] [.int q22.2] _
      refine s_ifeq (pc := 110) 118 dX12_readOrder_110 rfl ?_ ?_
      · exact s_vret rfl dX12_readOrder_118
      · refine s_aload_n (pc := 113) 0 dX12_readOrder_113 rfl rfl ?_
        refine s_iconst (pc := 114) 0 dX12_readOrder_114 kc_0 ?_
        refine s_bind (fun q27 hq28 => ?_)
        have hC29 := tf_X12_readTest (l := xl X) (G := xG X) hq28
        refine s_callV (pc := 115) (As := [.int 0]) (st := []) (nlt rfl) (q := (RX12, TX12, 59)) rfl rfl o26 cl_X12_readTest wi_X12_readTest wl_X12_readTest km_X12_259 rfl rfl (nle rfl) (nle rfl) (nle rfl) dX12_readOrder_115 hC29 ?_
        have h30 := hC29.1 X
        have o31 := h30.ok o26
        show S0 X _ q27 118 [some (.ref (gh (xG X) + a0))] [] _
        exact s_vret rfl dX12_readOrder_118
    · refine s_ifeq (pc := 95) 105 dX12_readOrder_95 rfl ?_ ?_
      · exact s_drop (hj20 q12.1 Le.rf) (And.intro rfl trivial)
      · refine s_aload_n (pc := 98) 0 dX12_readOrder_98 rfl rfl ?_
        refine s_iconst (pc := 99) 1 dX12_readOrder_99 kc_1 ?_
        refine s_bipush (pc := 100) 20 dX12_readOrder_100 kb_20 ?_
        refine s_bind (fun q32 hq33 => ?_)
        have hC34 := t_X12_mustNumber (l := xl X) (G := xG X) hq33
        refine s_callV (pc := 102) (As := [.int 1, .int 20]) (st := []) (nlt rfl) (q := (RX12, TX12, 59)) rfl rfl o16 cl_X12_mustNumber wi_X12_mustNumber wl_X12_mustNumber km_X12_262 rfl rfl (nle rfl) (nle rfl) (nle rfl) dX12_readOrder_102 hC34 ?_
        have h35 := hC34.1 X
        have o36 := h35.ok o16
        show S0 X _ q32 105 [some (.ref (gh (xG X) + a0))] [] _
        exact s_drop (hj20 q32 h35) (And.intro rfl trivial)
  · refine s_ifeq (pc := 6) 78 dX12_readOrder_6 rfl ?_ ?_
    · refine s_aload_n (pc := 78) 0 dX12_readOrder_78 rfl rfl ?_
      refine s_bipush (pc := 79) 13 dX12_readOrder_79 kb_13 ?_
      refine s_bind (fun q37 hq38 => ?_)
      have hC39 := t_X12_must (l := xl X) (G := xG X) hq38
      refine s_callV (pc := 81) (As := [.int 13]) (st := []) (nlt rfl) (q := (RX12, TX12, 59)) rfl rfl o6 cl_X12_must wi_X12_must wl_X12_must km_X12_256 rfl rfl (nle rfl) (nle rfl) (nle rfl) dX12_readOrder_81 hC39 ?_
      have h40 := hC39.1 X
      have o41 := h40.ok o6
      show S0 X _ q37 84 [some (.ref (gh (xG X) + a0))] [] _
      refine s_aload_n (pc := 84) 0 dX12_readOrder_84 rfl rfl ?_
      refine s_iconst (pc := 85) 0 dX12_readOrder_85 kc_0 ?_
      refine s_bind (fun q42 hq43 => ?_)
      have hC44 := tf_X12_readSum (l := xl X) (G := xG X) hq43
      refine s_callV (pc := 86) (As := [.int 0]) (st := []) (nlt rfl) (q := (RX12, TX12, 59)) rfl rfl o41 cl_X12_readSum wi_X12_readSum wl_X12_readSum km_X12_253 rfl rfl (nle rfl) (nle rfl) (nle rfl) dX12_readOrder_86 hC44 ?_
      have h45 := hC44.1 X
      have o46 := h45.ok o41
      show S0 X _ q42 89 [some (.ref (gh (xG X) + a0))] [] _
      exact s_drop (hj10 q42 (h40.tr h45)) (And.intro rfl trivial)
    · refine s_aload_n (pc := 9) 0 dX12_readOrder_9 rfl rfl ?_
      refine s_iconst (pc := 10) 0 dX12_readOrder_10 kc_0 ?_
      refine s_bind (fun q47 hq48 => ?_)
      have hC49 := tf_X12_readSum (l := xl X) (G := xG X) hq48
      refine s_callV (pc := 11) (As := [.int 0]) (st := []) (nlt rfl) (q := (RX12, TX12, 59)) rfl rfl o6 cl_X12_readSum wi_X12_readSum wl_X12_readSum km_X12_253 rfl rfl (nle rfl) (nle rfl) (nle rfl) dX12_readOrder_11 hC49 ?_
      have h50 := hC49.1 X
      have o51 := h50.ok o6
      show S0 X _ q47 14 [some (.ref (gh (xG X) + a0))] [] _
      refine s_aload_n (pc := 14) 0 dX12_readOrder_14 rfl rfl ?_
      refine s_bipush (pc := 15) 24 dX12_readOrder_15 kb_24 ?_
      refine s_bind (fun q52 hq53 => ?_)
      have hC54 := t_X12_takes0 (l := xl X) (G := xG X) hq53
      refine s_callV (pc := 17) (As := [.int 24]) (st := []) (nlt rfl) (q := (RX12, TX12, 59)) rfl rfl o51 cl_X12_takes0 wi_X12_takes0 wl_X12_takes0 km_X12_240 rfl rfl (nle rfl) (nle rfl) (nle rfl) dX12_readOrder_17 hC54 ?_
      have h55 := hC54.1 X
      have o56 := h55.ok o51
      show S0 X _ q52.1 20 [some (.ref (gh (xG X) + a0))] [.int q52.2] _
      refine s_join q52.1 (fun s58 : Mem => s58) 64 (fun s58 : Mem => [some (.ref (gh (xG X) + a0))]) (fun s58 : Mem => []) (fun s58 hs59 => ?_) (fun j57 hj60 => ?_)
      · show S0 X _ s58 64 [some (.ref (gh (xG X) + a0))] [] _
        have o61 := hs59.ok o56
        refine s_aload_n (pc := 64) 0 dX12_readOrder_64 rfl rfl ?_
        refine s_bipush (pc := 65) 25 dX12_readOrder_65 kb_25 ?_
        refine s_bind (fun q62 hq63 => ?_)
        have hC64 := t_X12_must (l := xl X) (G := xG X) hq63
        refine s_callV (pc := 67) (As := [.int 25]) (st := []) (nlt rfl) (q := (RX12, TX12, 59)) rfl rfl o61 cl_X12_must wi_X12_must wl_X12_must km_X12_256 rfl rfl (nle rfl) (nle rfl) (nle rfl) dX12_readOrder_67 hC64 ?_
        have h65 := hC64.1 X
        have o66 := h65.ok o61
        show S0 X _ q62 70 [some (.ref (gh (xG X) + a0))] [] _
        refine s_aload_n (pc := 70) 0 dX12_readOrder_70 rfl rfl ?_
        refine s_iconst (pc := 71) 0 dX12_readOrder_71 kc_0 ?_
        refine s_bind (fun q67 hq68 => ?_)
        have hC69 := tf_X12_readSum (l := xl X) (G := xG X) hq68
        refine s_callV (pc := 72) (As := [.int 0]) (st := []) (nlt rfl) (q := (RX12, TX12, 59)) rfl rfl o66 cl_X12_readSum wi_X12_readSum wl_X12_readSum km_X12_253 rfl rfl (nle rfl) (nle rfl) (nle rfl) dX12_readOrder_72 hC69 ?_
        have h70 := hC69.1 X
        have o71 := h70.ok o66
        show S0 X _ q67 75 [some (.ref (gh (xG X) + a0))] [] _
        refine s_goto (pc := 75) 89 dX12_readOrder_75 rfl ?_
        exact s_drop (hj10 q67 (h50.tr (h55.tr (hs59.tr (h65.tr h70))))) (And.intro rfl trivial)
      · refine s_ifeq (pc := 20) 31 dX12_readOrder_20 rfl ?_ ?_
        · refine s_aload_n (pc := 31) 0 dX12_readOrder_31 rfl rfl ?_
          refine s_bipush (pc := 32) 20 dX12_readOrder_32 kb_20 ?_
          refine s_bind (fun q72 hq73 => ?_)
          have hC74 := t_X12_takes0 (l := xl X) (G := xG X) hq73
          refine s_callV (pc := 34) (As := [.int 20]) (st := []) (nlt rfl) (q := (RX12, TX12, 59)) rfl rfl o56 cl_X12_takes0 wi_X12_takes0 wl_X12_takes0 km_X12_240 rfl rfl (nle rfl) (nle rfl) (nle rfl) dX12_readOrder_34 hC74 ?_
          have h75 := hC74.1 X
          have o76 := h75.ok o56
          show S0 X _ q72.1 37 [some (.ref (gh (xG X) + a0))] [.int q72.2] _
          refine s_ifne (pc := 37) 64 dX12_readOrder_37 rfl ?_ ?_
          · exact s_drop (hj60 q72.1 h75) (And.intro rfl trivial)
          · refine s_aload_n (pc := 40) 0 dX12_readOrder_40 rfl rfl ?_
            refine s_bipush (pc := 41) 21 dX12_readOrder_41 kb_21 ?_
            refine s_bind (fun q77 hq78 => ?_)
            have hC79 := t_X12_takes0 (l := xl X) (G := xG X) hq78
            refine s_callV (pc := 43) (As := [.int 21]) (st := []) (nlt rfl) (q := (RX12, TX12, 59)) rfl rfl o76 cl_X12_takes0 wi_X12_takes0 wl_X12_takes0 km_X12_240 rfl rfl (nle rfl) (nle rfl) (nle rfl) dX12_readOrder_43 hC79 ?_
            have h80 := hC79.1 X
            have o81 := h80.ok o76
            show S0 X _ q77.1 46 [some (.ref (gh (xG X) + a0))] [.int q77.2] _
            refine s_ifne (pc := 46) 64 dX12_readOrder_46 rfl ?_ ?_
            · exact s_drop (hj60 q77.1 (h75.tr h80)) (And.intro rfl trivial)
            · refine s_aload_n (pc := 49) 0 dX12_readOrder_49 rfl rfl ?_
              refine s_bipush (pc := 50) 22 dX12_readOrder_50 kb_22 ?_
              refine s_bind (fun q82 hq83 => ?_)
              have hC84 := t_X12_takes0 (l := xl X) (G := xG X) hq83
              refine s_callV (pc := 52) (As := [.int 22]) (st := []) (nlt rfl) (q := (RX12, TX12, 59)) rfl rfl o81 cl_X12_takes0 wi_X12_takes0 wl_X12_takes0 km_X12_240 rfl rfl (nle rfl) (nle rfl) (nle rfl) dX12_readOrder_52 hC84 ?_
              have h85 := hC84.1 X
              have o86 := h85.ok o81
              show S0 X _ q82.1 55 [some (.ref (gh (xG X) + a0))] [.int q82.2] _
              refine s_ifne (pc := 55) 64 dX12_readOrder_55 rfl ?_ ?_
              · exact s_drop (hj60 q82.1 (h75.tr (h80.tr h85))) (And.intro rfl trivial)
              · refine s_aload_n (pc := 58) 0 dX12_readOrder_58 rfl rfl ?_
                refine s_bipush (pc := 59) 23 dX12_readOrder_59 kb_23 ?_
                refine s_bind (fun q87 hq88 => ?_)
                have hC89 := t_X12_must (l := xl X) (G := xG X) hq88
                refine s_callV (pc := 61) (As := [.int 23]) (st := []) (nlt rfl) (q := (RX12, TX12, 59)) rfl rfl o86 cl_X12_must wi_X12_must wl_X12_must km_X12_256 rfl rfl (nle rfl) (nle rfl) (nle rfl) dX12_readOrder_61 hC89 ?_
                have h90 := hC89.1 X
                have o91 := h90.ok o86
                show S0 X _ q87 64 [some (.ref (gh (xG X) + a0))] [] _
                exact s_drop (hj60 q87 (h75.tr (h80.tr (h85.tr h90)))) (And.intro rfl trivial)
        · refine s_aload_n (pc := 23) 0 dX12_readOrder_23 rfl rfl ?_
          refine s_iconst (pc := 24) 0 dX12_readOrder_24 kc_0 ?_
          refine s_bind (fun q92 hq93 => ?_)
          have hC94 := tf_X12_readSum (l := xl X) (G := xG X) hq93
          refine s_callV (pc := 25) (As := [.int 0]) (st := []) (nlt rfl) (q := (RX12, TX12, 59)) rfl rfl o56 cl_X12_readSum wi_X12_readSum wl_X12_readSum km_X12_253 rfl rfl (nle rfl) (nle rfl) (nle rfl) dX12_readOrder_25 hC94 ?_
          have h95 := hC94.1 X
          have o96 := h95.ok o56
          show S0 X _ q92 28 [some (.ref (gh (xG X) + a0))] [] _
          refine s_goto (pc := 28) 64 dX12_readOrder_28 rfl ?_
          exact s_drop (hj60 q92 h95) (And.intro rfl trivial)
set_option maxRecDepth 100000 in
set_option maxHeartbeats 8000000 in
noncomputable def f_X12_weighs (M : Mem) (a0 : Nat) (p1 : Int32) (p2 : Int32) (p3 : Int32) (p4 : Int32) : Option (Mem × Int32) :=
  grd (okO M 12 a0) (Option.bind (f_X12_sets M a0 p1 p2 p3 p4) (fun q2 => Option.bind (f_X12_tells q2 a0 1 1) (fun q7 => some (q7.1, q7.2))))
abbrev Y_X12_weighs : Sta := (RX12, "weighs", cX12_weighs, 5, (some .int), 206)
set_option maxRecDepth 100000 in
set_option maxHeartbeats 8000000 in
theorem t_X12_weighs {l : Launch} {G : Gh} {M : Mem} {a0 : Nat} {p1 : Int32} {p2 : Int32} {p3 : Int32} {p4 : Int32} {q : Mem × Int32} (h : f_X12_weighs M a0 p1 p2 p3 p4 = some q) : Ctr l G yX12_weighs Y_X12_weighs M [.ref (gh G + a0), .int p1, .int p2, .int p3, .int p4] q.1 (some (.int q.2)) := by
  refine Ctr.of (Y := Y_X12_weighs) (L := [some (.ref (gh G + a0)), some (.int p1), some (.int p2), some (.int p3), some (.int p4)]) (t := Option.bind (f_X12_weighs M a0 p1 p2 p3 p4) (fun q => some (q.1, some (.int q.2)))) (by decide) rfl rfl (nle rfl) (Lof_in 0 _ rfl) (fun X hG hl => ?_) (by rw [h]; rfl)
  subst hG
  subst hl
  unfold f_X12_weighs
  refine s_aload_n (pc := 0) 0 dX12_weighs_0 rfl rfl ?_
  refine s_iload_n (pc := 1) 1 dX12_weighs_1 rfl rfl ?_
  refine s_iload_n (pc := 2) 2 dX12_weighs_2 rfl rfl ?_
  refine s_iload_n (pc := 3) 3 dX12_weighs_3 rfl rfl ?_
  refine s_iload (pc := 4) dX12_weighs_4 rfl ?_
  refine s_grd (fun o1 => ?_)
  refine s_bind (fun q2 hq3 => ?_)
  have hC4 := t_X12_sets (l := xl X) (G := xG X) hq3
  refine s_callV (pc := 6) (As := [.int p1, .int p2, .int p3, .int p4]) (st := []) (nlt rfl) (q := (RX12, TX12, 59)) rfl rfl o1 cl_X12_sets wi_X12_sets wl_X12_sets km_X12_167 rfl rfl (nle rfl) (nle rfl) (nle rfl) dX12_weighs_6 hC4 ?_
  have h5 := hC4.1 X
  have o6 := h5.ok o1
  show S0 X _ q2 9 [some (.ref (gh (xG X) + a0)), some (.int p1), some (.int p2), some (.int p3), some (.int p4)] [] _
  refine s_aload_n (pc := 9) 0 dX12_weighs_9 rfl rfl ?_
  refine s_iconst (pc := 10) 1 dX12_weighs_10 kc_1 ?_
  refine s_iconst (pc := 11) 1 dX12_weighs_11 kc_1 ?_
  refine s_bind (fun q7 hq8 => ?_)
  have hC9 := t_X12_tells (l := xl X) (G := xG X) hq8
  refine s_callV (pc := 12) (As := [.int 1, .int 1]) (st := []) (nlt rfl) (q := (RX12, TX12, 59)) rfl rfl o6 cl_X12_tells wi_X12_tells wl_X12_tells km_X12_171 rfl rfl (nle rfl) (nle rfl) (nle rfl) dX12_weighs_12 hC9 ?_
  have h10 := hC9.1 X
  have o11 := h10.ok o6
  show S0 X _ q7.1 15 [some (.ref (gh (xG X) + a0)), some (.int p1), some (.int p2), some (.int p3), some (.int p4)] [.int q7.2] _
  exact s_iret rfl dX12_weighs_15
set_option maxRecDepth 100000 in
set_option maxHeartbeats 8000000 in
noncomputable def f_X7_lawClause (M : Mem) (a0 : Nat) : Option (Mem × Int32) :=
  grd (okO M 7 a0) (bv (fun (s3 : Unit) => bv ((mI M a0 8) - 258 : Int32) (fun x6 => Option.bind (mR M a0 3) (fun r7 => grd (okO M 9 r7) (Option.bind (f_X9_open M r7 x6) (fun q9 => Option.bind (f_X7_next q9 a0) (fun q14 => bv (fun (s20 : Mem) => Option.bind (f_X7_condition s20 a0) (fun q24 => if q24.2 = 0 then (some (q24.1, 0)) else (some (q24.1, 1)))) (fun j19 => if x6 = 0 then (Option.bind (f_X7_sumFor q14 a0 3) (fun q29 => if q29.2 = 0 then (some (q29.1, 0)) else (j19 q29.1))) else (j19 q14)))))))) (fun j2 => if (mI M a0 8) = 258 then (j2 ()) else (if (mI M a0 8) = 259 then (j2 ()) else (Option.bind (f_X7_fail M a0) (fun q34 => grd (bl q34.2) (some (q34.1, q34.2)))))))
abbrev Y_X7_lawClause : Sta := (RX7, "lawClause", cX7_lawClause, 2, (some .boolean), 206)
set_option maxRecDepth 100000 in
set_option maxHeartbeats 8000000 in
theorem t_X7_lawClause {l : Launch} {G : Gh} {M : Mem} {a0 : Nat} {q : Mem × Int32} (h : f_X7_lawClause M a0 = some q) : Ctr l G yX7_lawClause Y_X7_lawClause M [.ref (gh G + a0)] q.1 (some (.int q.2)) := by
  refine Ctr.of (Y := Y_X7_lawClause) (L := [some (.ref (gh G + a0)), none]) (t := Option.bind (f_X7_lawClause M a0) (fun q => some (q.1, some (.int q.2)))) (by decide) rfl rfl (nle rfl) (Lof_in 1 _ rfl) (fun X hG hl => ?_) (by rw [h]; rfl)
  subst hG
  subst hl
  unfold f_X7_lawClause
  refine s_aload_n (pc := 0) 0 dX7_lawClause_0 rfl rfl ?_
  refine s_grd (fun o1 => ?_)
  refine s_geti (pc := 1) F_7 8 rfl o1 dX7_lawClause_1 kf_X7_66 ?_
  refine s_sipush (pc := 4) 258 dX7_lawClause_4 ks_258 ?_
  refine s_join M (fun s3 : Unit => M) 25 (fun s3 : Unit => [some (.ref (gh (xG X) + a0)), none]) (fun s3 : Unit => []) (fun s3 hs4 => ?_) (fun j2 hj5 => ?_)
  · show S0 X _ M 25 [some (.ref (gh (xG X) + a0)), none] [] _
    refine s_aload_n (pc := 25) 0 dX7_lawClause_25 rfl rfl ?_
    refine s_geti (pc := 26) F_7 8 rfl o1 dX7_lawClause_26 kf_X7_66 ?_
    refine s_sipush (pc := 29) 258 dX7_lawClause_29 ks_258 ?_
    refine s_isub (pc := 32) dX7_lawClause_32 ?_
    refine s_istore_n (pc := 33) 1 dX7_lawClause_33 rfl (nlt rfl) rfl (L' := [some (.ref (gh (xG X) + a0)), some (.int ((mI M a0 8) - 258))]) rfl ?_
    refine s_bv (fun x6 : Int32 => [some (.ref (gh (xG X) + a0)), some (.int x6)]) (fun x6 => ?_) rfl
    refine s_aload_n (pc := 34) 0 dX7_lawClause_34 rfl rfl ?_
    refine s_geto (pc := 35) F_7 3 rfl o1 dX7_lawClause_35 kf_X7_26 ?_
    refine s_rvB (fun r7 => ?_)
    refine s_iload_n (pc := 38) 1 dX7_lawClause_38 rfl rfl ?_
    refine s_grd (fun o8 => ?_)
    refine s_bind (fun q9 hq10 => ?_)
    have hC11 := t_X9_open (l := xl X) (G := xG X) hq10
    refine s_callV (pc := 39) (As := [.int x6]) (st := []) (nlt rfl) (q := (RX9, TX9, 5)) rfl rfl o8 cl_X9_open wi_X9_open wl_X9_open km_X7_110 rfl rfl (nle rfl) (nle rfl) (nle rfl) dX7_lawClause_39 hC11 ?_
    have h12 := hC11.1 X
    have o13 := h12.ok o1
    show S0 X _ q9 42 [some (.ref (gh (xG X) + a0)), some (.int x6)] [] _
    refine s_aload_n (pc := 42) 0 dX7_lawClause_42 rfl rfl ?_
    refine s_bind (fun q14 hq15 => ?_)
    have hC16 := t_X7_next (l := xl X) (G := xG X) hq15
    refine s_callV (pc := 43) (As := []) (st := []) (nlt rfl) (q := (RX7, TX7, 10)) rfl rfl o13 cl_X7_next wi_X7_next wl_X7_next km_X7_79 rfl rfl (nle rfl) (nle rfl) (nle rfl) dX7_lawClause_43 hC16 ?_
    have h17 := hC16.1 X
    have o18 := h17.ok o13
    show S0 X _ q14 46 [some (.ref (gh (xG X) + a0)), some (.int x6)] [] _
    refine s_iload_n (pc := 46) 1 dX7_lawClause_46 rfl rfl ?_
    refine s_join q14 (fun s20 : Mem => s20) 58 (fun s20 : Mem => [some (.ref (gh (xG X) + a0)), none]) (fun s20 : Mem => []) (fun s20 hs21 => ?_) (fun j19 hj22 => ?_)
    · show S0 X _ s20 58 [some (.ref (gh (xG X) + a0)), none] [] _
      have o23 := hs21.ok o18
      refine s_aload_n (pc := 58) 0 dX7_lawClause_58 rfl rfl ?_
      refine s_bind (fun q24 hq25 => ?_)
      have hC26 := t_X7_condition (l := xl X) (G := xG X) hq25
      refine s_callV (pc := 59) (As := []) (st := []) (nlt rfl) (q := (RX7, TX7, 10)) rfl rfl o23 cl_X7_condition wi_X7_condition wl_X7_condition km_X7_117 rfl rfl (nle rfl) (nle rfl) (nle rfl) dX7_lawClause_59 hC26 ?_
      have h27 := hC26.1 X
      have o28 := h27.ok o23
      show S0 X _ q24.1 62 [some (.ref (gh (xG X) + a0)), none] [.int q24.2] _
      refine s_ifeq (pc := 62) 69 dX7_lawClause_62 rfl ?_ ?_
      · refine s_iconst (pc := 69) 0 dX7_lawClause_69 kc_0 ?_
        exact s_zret rfl rfl dX7_lawClause_70
      · refine s_iconst (pc := 65) 1 dX7_lawClause_65 kc_1 ?_
        refine s_goto (pc := 66) 70 dX7_lawClause_66 rfl ?_
        exact s_zret rfl rfl dX7_lawClause_70
    · refine s_ifne (pc := 47) 58 dX7_lawClause_47 rfl ?_ ?_
      · exact s_drop (hj22 q14 Le.rf) (And.intro rfl trivial)
      · refine s_aload_n (pc := 50) 0 dX7_lawClause_50 rfl rfl ?_
        refine s_iconst (pc := 51) 3 dX7_lawClause_51 kc_3 ?_
        refine s_bind (fun q29 hq30 => ?_)
        have hC31 := t_X7_sumFor (l := xl X) (G := xG X) hq30
        refine s_callV (pc := 52) (As := [.int 3]) (st := []) (nlt rfl) (q := (RX7, TX7, 10)) rfl rfl o18 cl_X7_sumFor wi_X7_sumFor wl_X7_sumFor km_X7_114 rfl rfl (nle rfl) (nle rfl) (nle rfl) dX7_lawClause_52 hC31 ?_
        have h32 := hC31.1 X
        have o33 := h32.ok o18
        show S0 X _ q29.1 55 [some (.ref (gh (xG X) + a0)), some (.int x6)] [.int q29.2] _
        refine s_ifeq (pc := 55) 69 dX7_lawClause_55 rfl ?_ ?_
        · refine s_iconst (pc := 69) 0 dX7_lawClause_69 kc_0 ?_
          exact s_zret rfl rfl dX7_lawClause_70
        · exact s_drop (hj22 q29.1 h32) (And.intro rfl trivial)
  · refine s_iceq (pc := 7) 25 dX7_lawClause_7 rfl ?_ ?_
    · exact s_drop (hj5 () Le.rf) (And.intro rfl trivial)
    · refine s_aload_n (pc := 10) 0 dX7_lawClause_10 rfl rfl ?_
      refine s_geti (pc := 11) F_7 8 rfl o1 dX7_lawClause_11 kf_X7_66 ?_
      refine s_sipush (pc := 14) 259 dX7_lawClause_14 ks_259 ?_
      refine s_iceq (pc := 17) 25 dX7_lawClause_17 rfl ?_ ?_
      · exact s_drop (hj5 () Le.rf) (And.intro rfl trivial)
      · refine s_aload_n (pc := 20) 0 dX7_lawClause_20 rfl rfl ?_
        refine s_bind (fun q34 hq35 => ?_)
        have hC36 := t_X7_fail (l := xl X) (G := xG X) hq35
        refine s_callV (pc := 21) (As := []) (st := []) (nlt rfl) (q := (RX7, TX7, 10)) rfl rfl o1 cl_X7_fail wi_X7_fail wl_X7_fail km_X7_76 rfl rfl (nle rfl) (nle rfl) (nle rfl) dX7_lawClause_21 hC36 ?_
        have h37 := hC36.1 X
        have o38 := h37.ok o1
        show S0 X _ q34.1 24 [some (.ref (gh (xG X) + a0)), none] [.int q34.2] _
        refine s_grd (fun g39 => ?_)
        exact s_zret rfl g39 dX7_lawClause_24
