noncomputable def f_X0_work (M : Mem) (a0 : Nat) (x1 : Int32) (x2 : Int32) : Option (Mem × Int32) :=
  if x1 = (-1) then (some (M, 0)) else (if x2 < 0 then (some (M, 0)) else (if x2 ≤ 3 then (grd (okO M 0 a0) (bv (fun (s3 : Unit) => Option.bind (mR M a0 3) (fun r6 => grd (okO M 15 r6) (bv (fun (s9 : Mem) => bv (wI s9 a0 5 x1) (fun M13 => bv (wI M13 a0 6 x2) (fun M17 => Option.bind (mR M17 a0 0) (fun r21 => grd (okO M17 10 r21) (bv (wI M17 a0 7 (mI M17 r21 11)) (fun M23 => Option.bind (mR M23 a0 0) (fun r27 => grd (okO M23 10 r27) (bv (wI M23 a0 8 (mI M23 r27 13)) (fun M29 => Option.bind (mR M29 a0 1) (fun r33 => grd (okO M29 8 r33) (Option.bind (f_X8_open M29 r33 (mI M29 a0 7)) (fun q35 => Option.bind (mR q35 a0 3) (fun r40 => Option.bind (f_J7_fill_d0a16 q35 r40 0) (fun q41 => Option.bind (mR q41 a0 3) (fun r46 => grd (okO q41 15 r46) (grd (vp_in x1 (mL q41 r46)) (bv (wJ q41 r46 x1.toNatClampNeg 1000000000000) (fun M49 => Option.bind (loopO (σ := Mem × Int32) (ρ := Mem) (fun s53 => if x2 ≤ s53.2 then (some (.inr s53.1)) else (Option.bind (mR s53.1 a0 4) (fun r62 => Option.bind (f_J7_fill_d0a16 s53.1 r62 0) (fun q63 => Option.bind (loopO (σ := Mem × Int32) (ρ := Mem) (fun s68 => if 9331 ≤ s68.2 then (some (.inr s68.1)) else (Option.bind (mR s68.1 a0 3) (fun r77 => grd (okO s68.1 15 r77) (grd (vp_in s68.2 (mL s68.1 r77)) (bv (fun (s81 : Mem) => bv (s68.2 + 1 : Int32) (fun x85 => some (.inl (s81, x85)))) (fun j80 => if (lg_cmp (mJ s68.1 r77 s68.2.toNatClampNeg) 0) ≤ 0 then (j80 s68.1) else (Option.bind (mR s68.1 a0 2) (fun r86 => grd (okO s68.1 1 r86) (Option.bind (f_X1_listAll s68.1 r86 s68.2) (fun q88 => Option.bind (f_X0_handOn q88 a0 s68.2) (fun q93 => j80 q93))))))))))) (q63, 0)) (fun (x75 : Mem) => Option.bind (mR x75 a0 3) (fun r99 => Option.bind (mR x75 a0 4) (fun r100 => bv (wR x75 a0 3 (some r100)) (fun M101 => bv (wR M101 a0 4 (some r99)) (fun M105 => bv (s53.2 + 1 : Int32) (fun x109 => some (.inl (M105, x109)))))))))))) (M49, 0)) (fun (x60 : Mem) => some (x60, 1)))))))))))))))))))) (fun j8 => if (nI (mL M r6)) = 0 then (bv (nA M 15 (9331 : Int32).toNatClampNeg) (fun M110 => bv (wR M110 a0 3 (some (mn M))) (fun M115 => bv (nA M115 15 (9331 : Int32).toNatClampNeg) (fun M119 => bv (wR M119 a0 4 (some (mn M115))) (fun M124 => j8 M124))))) else (j8 M))))) (fun j2 => if (mI M a0 5) = x1 then (if (mI M a0 6) = x2 then (Option.bind (mR M a0 0) (fun r128 => grd (okO M 10 r128) (if (mI M a0 7) = (mI M r128 11) then (Option.bind (mR M a0 0) (fun r130 => grd (okO M 10 r130) (if (mI M a0 8) = (mI M r130 13) then (some (M, 1)) else (j2 ())))) else (j2 ())))) else (j2 ())) else (j2 ())))) else (some (M, 0))))
abbrev Y_X0_work : Sta := (RX0, "work", cX0_work, 5, (some .boolean), 7)
set_option maxRecDepth 100000 in
set_option maxHeartbeats 8000000 in
theorem t_X0_work {l : Launch} {G : Gh} {M : Mem} {a0 : Nat} {x1 : Int32} {x2 : Int32} {q : Mem × Int32} (h : f_X0_work M a0 x1 x2 = some q) : Ctr l G yX0_work Y_X0_work M [.ref (gh G + a0), .int x1, .int x2] q.1 (some (.int q.2)) := by
  refine Ctr.of (Y := Y_X0_work) (L := [some (.ref (gh G + a0)), some (.int x1), some (.int x2), none, none]) (t := Option.bind (f_X0_work M a0 x1 x2) (fun q => some (q.1, some (.int q.2)))) (by decide) rfl rfl (nle rfl) (Lof_in 2 _ rfl) (fun X hG hl => ?_) (by rw [h]; rfl)
  subst hG
  subst hl
  unfold f_X0_work
  refine s_iload_n (pc := 0) 1 dX0_work_0 rfl rfl ?_
  refine s_iconst (pc := 1) (-1) dX0_work_1 kc_m1 ?_
  refine s_iceq (pc := 2) 14 dX0_work_2 rfl ?_ ?_
  · refine s_iconst (pc := 14) 0 dX0_work_14 kc_0 ?_
    exact s_zret rfl rfl dX0_work_15
  · refine s_iload_n (pc := 5) 2 dX0_work_5 rfl rfl ?_
    refine s_iflt (pc := 6) 14 dX0_work_6 rfl ?_ ?_
    · refine s_iconst (pc := 14) 0 dX0_work_14 kc_0 ?_
      exact s_zret rfl rfl dX0_work_15
    · refine s_iload_n (pc := 9) 2 dX0_work_9 rfl rfl ?_
      refine s_iconst (pc := 10) 3 dX0_work_10 kc_3 ?_
      refine s_icle (pc := 11) 16 dX0_work_11 rfl ?_ ?_
      · refine s_aload_n (pc := 16) 0 dX0_work_16 rfl rfl ?_
        refine s_grd (fun o1 => ?_)
        refine s_geti (pc := 17) F_0 5 rfl o1 dX0_work_17 kf_X0_34 ?_
        refine s_iload_n (pc := 20) 1 dX0_work_20 rfl rfl ?_
        refine s_join M (fun s3 : Unit => M) 62 (fun s3 : Unit => [some (.ref (gh (xG X) + a0)), some (.int x1), some (.int x2), none, none]) (fun s3 : Unit => []) (fun s3 hs4 => ?_) (fun j2 hj5 => ?_)
        · show S0 X _ M 62 [some (.ref (gh (xG X) + a0)), some (.int x1), some (.int x2), none, none] [] _
          refine s_aload_n (pc := 62) 0 dX0_work_62 rfl rfl ?_
          refine s_geto (pc := 63) F_0 3 rfl o1 dX0_work_63 kf_X0_9 ?_
          refine s_rvB (fun r6 => ?_)
          refine s_grd (fun o7 => ?_)
          refine s_alen (pc := 66) 15 (And.intro (nle rfl) (nle rfl)) o7 dX0_work_66 ?_
          refine s_join M (fun s9 : Mem => s9) 88 (fun s9 : Mem => [some (.ref (gh (xG X) + a0)), some (.int x1), some (.int x2), none, none]) (fun s9 : Mem => []) (fun s9 hs10 => ?_) (fun j8 hj11 => ?_)
          · show S0 X _ s9 88 [some (.ref (gh (xG X) + a0)), some (.int x1), some (.int x2), none, none] [] _
            have o12 := hs10.ok o1
            refine s_aload_n (pc := 88) 0 dX0_work_88 rfl rfl ?_
            refine s_iload_n (pc := 89) 1 dX0_work_89 rfl rfl ?_
            refine s_puti (pc := 90) F_0 5 rfl o12 rfl rfl rfl dX0_work_90 kf_X0_34 (fun M13 hM14 => ?_)
            have h15 := le_wI hM14
            have o16 := h15.ok o12
            refine s_aload_n (pc := 93) 0 dX0_work_93 rfl rfl ?_
            refine s_iload_n (pc := 94) 2 dX0_work_94 rfl rfl ?_
            refine s_puti (pc := 95) F_0 6 rfl o16 rfl rfl rfl dX0_work_95 kf_X0_18 (fun M17 hM18 => ?_)
            have h19 := le_wI hM18
            have o20 := h19.ok o16
            refine s_aload_n (pc := 98) 0 dX0_work_98 rfl rfl ?_
            refine s_aload_n (pc := 99) 0 dX0_work_99 rfl rfl ?_
            refine s_geto (pc := 100) F_0 0 rfl o20 dX0_work_100 kf_X0_22 ?_
            refine s_rvB (fun r21 => ?_)
            refine s_grd (fun o22 => ?_)
            refine s_getiN (pc := 103) F_10 11 rfl o22 dX0_work_103 (List.mem_of_getElem? (i := 12) rfl) ?_
            refine s_puti (pc := 106) F_0 7 rfl o20 rfl rfl rfl dX0_work_106 kf_X0_37 (fun M23 hM24 => ?_)
            have h25 := le_wI hM24
            have o26 := h25.ok o20
            refine s_aload_n (pc := 109) 0 dX0_work_109 rfl rfl ?_
            refine s_aload_n (pc := 110) 0 dX0_work_110 rfl rfl ?_
            refine s_geto (pc := 111) F_0 0 rfl o26 dX0_work_111 kf_X0_22 ?_
            refine s_rvB (fun r27 => ?_)
            refine s_grd (fun o28 => ?_)
            refine s_getiN (pc := 114) F_10 13 rfl o28 dX0_work_114 (List.mem_of_getElem? (i := 19) rfl) ?_
            refine s_puti (pc := 117) F_0 8 rfl o26 rfl rfl rfl dX0_work_117 kf_X0_43 (fun M29 hM30 => ?_)
            have h31 := le_wI hM30
            have o32 := h31.ok o26
            refine s_aload_n (pc := 120) 0 dX0_work_120 rfl rfl ?_
            refine s_geto (pc := 121) F_0 1 rfl o32 dX0_work_121 kf_X0_26 ?_
            refine s_rvB (fun r33 => ?_)
            refine s_aload_n (pc := 124) 0 dX0_work_124 rfl rfl ?_
            refine s_geti (pc := 125) F_0 7 rfl o32 dX0_work_125 kf_X0_37 ?_
            refine s_grd (fun o34 => ?_)
            refine s_bind (fun q35 hq36 => ?_)
            have hC37 := t_X8_open (l := xl X) (G := xG X) hq36
            refine s_callV (pc := 128) (As := [.int (mI M29 a0 7)]) (st := []) (nlt rfl) (q := (RX8, TX8, 7)) rfl rfl o34 cl_X8_open wi_X8_open wl_X8_open km_X0_47 rfl rfl (nle rfl) (nle rfl) (nle rfl) dX0_work_128 hC37 ?_
            have h38 := hC37.1 X
            have o39 := h38.ok o32
            show S0 X _ q35 131 [some (.ref (gh (xG X) + a0)), some (.int x1), some (.int x2), none, none] [] _
            refine s_aload_n (pc := 131) 0 dX0_work_131 rfl rfl ?_
            refine s_geto (pc := 132) F_0 3 rfl o39 dX0_work_132 kf_X0_9 ?_
            refine s_rvB (fun r40 => ?_)
            refine s_lconst (pc := 135) 0 dX0_work_135 kl_0 ?_
            refine s_bind (fun q41 hq42 => ?_)
            have hC43 := t_J7_fill_d0a16 (l := xl X) (G := xG X) hq42
            refine s_callS (pc := 136) (As := [.ref (gh (xG X) + r40), .long 0]) (st := []) cl_J7_fill_d0a16 wt_J7_fill_d0a16 km_X0_53 rfl rfl (nle rfl) (nle rfl) (nle rfl) dX0_work_136 hC43 ?_
            have h44 := hC43.1 X
            have o45 := h44.ok o39
            show S0 X _ q41 139 [some (.ref (gh (xG X) + a0)), some (.int x1), some (.int x2), none, none] [] _
            refine s_aload_n (pc := 139) 0 dX0_work_139 rfl rfl ?_
            refine s_geto (pc := 140) F_0 3 rfl o45 dX0_work_140 kf_X0_9 ?_
            refine s_rvB (fun r46 => ?_)
            refine s_iload_n (pc := 143) 1 dX0_work_143 rfl rfl ?_
            refine s_ldc2 (pc := 144) dX0_work_144 kl_X0_59 ?_
            refine s_grd (fun o47 => ?_)
            refine s_grd (fun i48 => ?_)
            refine s_last (pc := 147) o47 i48 dX0_work_147 (fun M49 hM50 => ?_)
            have h51 := le_wJ hM50
            have o52 := h51.ok o45
            refine s_iconst (pc := 148) 0 dX0_work_148 kc_0 ?_
            refine s_istore_n (pc := 149) 3 dX0_work_149 rfl (nlt rfl) rfl (L' := [some (.ref (gh (xG X) + a0)), some (.int x1), some (.int x2), some (.int 0), none]) rfl ?_
            refine s_drop (L' := [some (.ref (gh (xG X) + a0)), none, some (.int x2), some (.int 0), none]) ?_ (And.intro rfl (And.intro rfl (And.intro rfl trivial)))
            refine s_loop1 M49 (fun s53 : Mem × Int32 => s53.1) (fun s53 : Mem × Int32 => [some (.ref (gh (xG X) + a0)), none, some (.int x2), some (.int s53.2), none]) (fun x60 : Mem => x60) 233 (fun x60 : Mem => [none, none, none, none, none]) (fun x60 hx61 => ?_) (fun T55 R57 hT56 hR58 s53 hs54 => ?_) (M49, 0) Le.rf
            · show S0 X _ x60 233 [none, none, none, none, none] [] _
              refine s_iconst (pc := 233) 1 dX0_work_233 kc_1 ?_
              exact s_zret rfl rfl dX0_work_234
            · show S0 X _ s53.1 150 [some (.ref (gh (xG X) + a0)), none, some (.int x2), some (.int s53.2), none] [] _
              have o59 := hs54.ok o52
              refine s_iload_n (pc := 150) 3 dX0_work_150 rfl rfl ?_
              refine s_iload_n (pc := 151) 2 dX0_work_151 rfl rfl ?_
              refine s_icge (pc := 152) 233 dX0_work_152 rfl ?_ ?_
              · exact s_drop (hR58 s53.1 hs54) trivial
              · refine s_aload_n (pc := 155) 0 dX0_work_155 rfl rfl ?_
                refine s_geto (pc := 156) F_0 4 rfl o59 dX0_work_156 kf_X0_15 ?_
                refine s_rvB (fun r62 => ?_)
                refine s_lconst (pc := 159) 0 dX0_work_159 kl_0 ?_
                refine s_bind (fun q63 hq64 => ?_)
                have hC65 := t_J7_fill_d0a16 (l := xl X) (G := xG X) hq64
                refine s_callS (pc := 160) (As := [.ref (gh (xG X) + r62), .long 0]) (st := []) cl_J7_fill_d0a16 wt_J7_fill_d0a16 km_X0_53 rfl rfl (nle rfl) (nle rfl) (nle rfl) dX0_work_160 hC65 ?_
                have h66 := hC65.1 X
                have o67 := h66.ok o59
                show S0 X _ q63 163 [some (.ref (gh (xG X) + a0)), none, some (.int x2), some (.int s53.2), none] [] _
                refine s_iconst (pc := 163) 0 dX0_work_163 kc_0 ?_
                refine s_istore (pc := 164) dX0_work_164 (nlt rfl) rfl (L' := [some (.ref (gh (xG X) + a0)), none, some (.int x2), some (.int s53.2), some (.int 0)]) rfl ?_
                refine s_drop (L' := [some (.ref (gh (xG X) + a0)), none, some (.int x2), some (.int s53.2), some (.int 0)]) ?_ (And.intro rfl (And.intro rfl (And.intro rfl (And.intro rfl trivial))))
                refine s_loop1 q63 (fun s68 : Mem × Int32 => s68.1) (fun s68 : Mem × Int32 => [some (.ref (gh (xG X) + a0)), none, some (.int x2), some (.int s53.2), some (.int s68.2)]) (fun x75 : Mem => x75) 207 (fun x75 : Mem => [some (.ref (gh (xG X) + a0)), none, some (.int x2), some (.int s53.2), none]) (fun x75 hx76 => ?_) (fun T70 R72 hT71 hR73 s68 hs69 => ?_) (q63, 0) Le.rf
                · show S0 X _ x75 207 [some (.ref (gh (xG X) + a0)), none, some (.int x2), some (.int s53.2), none] [] _
                  have o98 := hx76.ok o67
                  refine s_aload_n (pc := 207) 0 dX0_work_207 rfl rfl ?_
                  refine s_geto (pc := 208) F_0 3 rfl o98 dX0_work_208 kf_X0_9 ?_
                  refine s_rvB (fun r99 => ?_)
                  refine s_astore (pc := 211) dX0_work_211 (nlt rfl) rfl (L' := [some (.ref (gh (xG X) + a0)), none, some (.int x2), some (.int s53.2), some (.ref (gh (xG X) + r99))]) rfl ?_
                  refine s_aload_n (pc := 213) 0 dX0_work_213 rfl rfl ?_
                  refine s_aload_n (pc := 214) 0 dX0_work_214 rfl rfl ?_
                  refine s_geto (pc := 215) F_0 4 rfl o98 dX0_work_215 kf_X0_15 ?_
                  refine s_rvB (fun r100 => ?_)
                  refine s_putr (pc := 218) F_0 3 rfl o98 rfl rfl rfl dX0_work_218 kf_X0_9 (fun M101 hM102 => ?_)
                  have h103 := le_wR hM102
                  have o104 := h103.ok o98
                  refine s_aload_n (pc := 221) 0 dX0_work_221 rfl rfl ?_
                  refine s_aload (pc := 222) dX0_work_222 rfl ?_
                  refine s_putr (pc := 224) F_0 4 rfl o104 rfl rfl rfl dX0_work_224 kf_X0_15 (fun M105 hM106 => ?_)
                  have h107 := le_wR hM106
                  have o108 := h107.ok o104
                  refine s_iinc (pc := 227) dX0_work_227 rfl (v := s53.2 + 1) (congrArg (fun z : Int32 => s53.2 + z) kc_1) (nlt rfl) rfl (L' := [some (.ref (gh (xG X) + a0)), none, some (.int x2), some (.int (s53.2 + 1)), some (.ref (gh (xG X) + r99))]) rfl ?_
                  refine s_bv (fun x109 : Int32 => [some (.ref (gh (xG X) + a0)), none, some (.int x2), some (.int x109), some (.ref (gh (xG X) + r99))]) (fun x109 => ?_) rfl
                  refine s_goto (pc := 230) 150 dX0_work_230 rfl ?_
                  exact s_drop (hT56 (M105, x109) (hs54.tr (h66.tr (hx76.tr (h103.tr h107))))) (And.intro rfl (And.intro rfl (And.intro rfl trivial)))
                · show S0 X _ s68.1 166 [some (.ref (gh (xG X) + a0)), none, some (.int x2), some (.int s53.2), some (.int s68.2)] [] _
                  have o74 := hs69.ok o67
                  refine s_iload (pc := 166) dX0_work_166 rfl ?_
                  refine s_sipush (pc := 168) 9331 dX0_work_168 ks_9331 ?_
                  refine s_icge (pc := 171) 207 dX0_work_171 rfl ?_ ?_
                  · exact s_drop (hR73 s68.1 hs69) (And.intro rfl (And.intro rfl (And.intro rfl trivial)))
                  · refine s_aload_n (pc := 174) 0 dX0_work_174 rfl rfl ?_
                    refine s_geto (pc := 175) F_0 3 rfl o74 dX0_work_175 kf_X0_9 ?_
                    refine s_rvB (fun r77 => ?_)
                    refine s_iload (pc := 178) dX0_work_178 rfl ?_
                    refine s_grd (fun o78 => ?_)
                    refine s_grd (fun i79 => ?_)
                    refine s_lald (pc := 180) o78 i79 dX0_work_180 ?_
                    refine s_lconst (pc := 181) 0 dX0_work_181 kl_0 ?_
                    refine s_lcmp (pc := 182) dX0_work_182 ?_
                    refine s_join s68.1 (fun s81 : Mem => s81) 201 (fun s81 : Mem => [some (.ref (gh (xG X) + a0)), none, some (.int x2), some (.int s53.2), some (.int s68.2)]) (fun s81 : Mem => []) (fun s81 hs82 => ?_) (fun j80 hj83 => ?_)
                    · show S0 X _ s81 201 [some (.ref (gh (xG X) + a0)), none, some (.int x2), some (.int s53.2), some (.int s68.2)] [] _
                      have o84 := hs82.ok o74
                      refine s_iinc (pc := 201) dX0_work_201 rfl (v := s68.2 + 1) (congrArg (fun z : Int32 => s68.2 + z) kc_1) (nlt rfl) rfl (L' := [some (.ref (gh (xG X) + a0)), none, some (.int x2), some (.int s53.2), some (.int (s68.2 + 1))]) rfl ?_
                      refine s_bv (fun x85 : Int32 => [some (.ref (gh (xG X) + a0)), none, some (.int x2), some (.int s53.2), some (.int x85)]) (fun x85 => ?_) rfl
                      refine s_goto (pc := 204) 166 dX0_work_204 rfl ?_
                      exact s_drop (hT71 (s81, x85) (hs69.tr hs82)) (And.intro rfl (And.intro rfl (And.intro rfl (And.intro rfl trivial))))
                    · refine s_ifle (pc := 183) 201 dX0_work_183 rfl ?_ ?_
                      · exact s_drop (hj83 s68.1 Le.rf) (And.intro rfl (And.intro rfl (And.intro rfl (And.intro rfl trivial))))
                      · refine s_aload_n (pc := 186) 0 dX0_work_186 rfl rfl ?_
                        refine s_geto (pc := 187) F_0 2 rfl o74 dX0_work_187 kf_X0_30 ?_
                        refine s_rvB (fun r86 => ?_)
                        refine s_iload (pc := 190) dX0_work_190 rfl ?_
                        refine s_grd (fun o87 => ?_)
                        refine s_bind (fun q88 hq89 => ?_)
                        have hC90 := t_X1_listAll (l := xl X) (G := xG X) hq89
                        refine s_callV (pc := 192) (As := [.int s68.2]) (st := []) (nlt rfl) (q := (RX1, TX1, 8)) rfl rfl o87 cl_X1_listAll wi_X1_listAll wl_X1_listAll km_X0_61 rfl rfl (nle rfl) (nle rfl) (nle rfl) dX0_work_192 hC90 ?_
                        have h91 := hC90.1 X
                        have o92 := h91.ok o74
                        show S0 X _ q88 195 [some (.ref (gh (xG X) + a0)), none, some (.int x2), some (.int s53.2), some (.int s68.2)] [] _
                        refine s_aload_n (pc := 195) 0 dX0_work_195 rfl rfl ?_
                        refine s_iload (pc := 196) dX0_work_196 rfl ?_
                        refine s_bind (fun q93 hq94 => ?_)
                        have hC95 := t_X0_handOn (l := xl X) (G := xG X) hq94
                        refine s_callV (pc := 198) (As := [.int s68.2]) (st := []) (nlt rfl) (q := (RX0, TX0, 9)) rfl rfl o92 cl_X0_handOn wi_X0_handOn wl_X0_handOn km_X0_66 rfl rfl (nle rfl) (nle rfl) (nle rfl) dX0_work_198 hC95 ?_
                        have h96 := hC95.1 X
                        have o97 := h96.ok o92
                        show S0 X _ q93 201 [some (.ref (gh (xG X) + a0)), none, some (.int x2), some (.int s53.2), some (.int s68.2)] [] _
                        exact s_drop (hj83 q93 (h91.tr h96)) (And.intro rfl (And.intro rfl (And.intro rfl (And.intro rfl trivial))))
          · refine s_ifne (pc := 67) 88 dX0_work_67 rfl ?_ ?_
            · exact s_drop (hj11 M Le.rf) (And.intro rfl (And.intro rfl (And.intro rfl trivial)))
            · refine s_aload_n (pc := 70) 0 dX0_work_70 rfl rfl ?_
              refine s_sipush (pc := 71) 9331 dX0_work_71 ks_9331 ?_
              refine s_newa_long (pc := 74) (And.intro (by decide) (by decide)) dX0_work_74 wa_long (fun M110 hM111 => ?_)
              have h112 := le_nA hM111
              have o113 := h112.ok o1
              have o114 := ok_nA hM111
              refine s_putr (pc := 76) F_0 3 rfl o113 rfl rfl rfl dX0_work_76 kf_X0_9 (fun M115 hM116 => ?_)
              have h117 := le_wR hM116
              have o118 := h117.ok o113
              refine s_aload_n (pc := 79) 0 dX0_work_79 rfl rfl ?_
              refine s_sipush (pc := 80) 9331 dX0_work_80 ks_9331 ?_
              refine s_newa_long (pc := 83) (And.intro (by decide) (by decide)) dX0_work_83 wa_long (fun M119 hM120 => ?_)
              have h121 := le_nA hM120
              have o122 := h121.ok o118
              have o123 := ok_nA hM120
              refine s_putr (pc := 85) F_0 4 rfl o122 rfl rfl rfl dX0_work_85 kf_X0_15 (fun M124 hM125 => ?_)
              have h126 := le_wR hM125
              have o127 := h126.ok o122
              exact s_drop (hj11 M124 (h112.tr (h117.tr (h121.tr h126)))) (And.intro rfl (And.intro rfl (And.intro rfl trivial)))
        · refine s_icne (pc := 21) 62 dX0_work_21 rfl ?_ ?_
          · exact s_drop (hj5 () Le.rf) (And.intro rfl (And.intro rfl (And.intro rfl trivial)))
          · refine s_aload_n (pc := 24) 0 dX0_work_24 rfl rfl ?_
            refine s_geti (pc := 25) F_0 6 rfl o1 dX0_work_25 kf_X0_18 ?_
            refine s_iload_n (pc := 28) 2 dX0_work_28 rfl rfl ?_
            refine s_icne (pc := 29) 62 dX0_work_29 rfl ?_ ?_
            · exact s_drop (hj5 () Le.rf) (And.intro rfl (And.intro rfl (And.intro rfl trivial)))
            · refine s_aload_n (pc := 32) 0 dX0_work_32 rfl rfl ?_
              refine s_geti (pc := 33) F_0 7 rfl o1 dX0_work_33 kf_X0_37 ?_
              refine s_aload_n (pc := 36) 0 dX0_work_36 rfl rfl ?_
              refine s_geto (pc := 37) F_0 0 rfl o1 dX0_work_37 kf_X0_22 ?_
              refine s_rvB (fun r128 => ?_)
              refine s_grd (fun o129 => ?_)
              refine s_getiN (pc := 40) F_10 11 rfl o129 dX0_work_40 (List.mem_of_getElem? (i := 12) rfl) ?_
              refine s_icne (pc := 43) 62 dX0_work_43 rfl ?_ ?_
              · exact s_drop (hj5 () Le.rf) (And.intro rfl (And.intro rfl (And.intro rfl trivial)))
              · refine s_aload_n (pc := 46) 0 dX0_work_46 rfl rfl ?_
                refine s_geti (pc := 47) F_0 8 rfl o1 dX0_work_47 kf_X0_43 ?_
                refine s_aload_n (pc := 50) 0 dX0_work_50 rfl rfl ?_
                refine s_geto (pc := 51) F_0 0 rfl o1 dX0_work_51 kf_X0_22 ?_
                refine s_rvB (fun r130 => ?_)
                refine s_grd (fun o131 => ?_)
                refine s_getiN (pc := 54) F_10 13 rfl o131 dX0_work_54 (List.mem_of_getElem? (i := 19) rfl) ?_
                refine s_icne (pc := 57) 62 dX0_work_57 rfl ?_ ?_
                · exact s_drop (hj5 () Le.rf) (And.intro rfl (And.intro rfl (And.intro rfl trivial)))
                · refine s_iconst (pc := 60) 1 dX0_work_60 kc_1 ?_
                  exact s_zret rfl rfl dX0_work_61
      · refine s_iconst (pc := 14) 0 dX0_work_14 kc_0 ?_
        exact s_zret rfl rfl dX0_work_15
noncomputable def f_X11_between (M : Mem) (a0 : Nat) (x1 : Int32) (x2 : Int32) : Option (Mem × Int32) :=
  grd (okO M 11 a0) (Option.bind (mR M a0 0) (fun r2 => grd (okO M 10 r2) (Option.bind (f_X10_hasHouse M r2 x1) (fun q4 => if q4 = 0 then (some (M, (-1))) else (Option.bind (mR M a0 0) (fun r7 => Option.bind (mR M a0 0) (fun r8 => grd (okO M 10 r8) (Option.bind (mR M r8 3) (fun r10 => grd (okO M 14 r10) (grd (vp_in x1 (mL M r10)) (grd (okO M 10 r7) (Option.bind (f_X10_hasHouse M r7 (mI M r10 x1.toNatClampNeg)) (fun q14 => if q14 = 0 then (some (M, (-1))) else (if (-1) ≤ x2 then (Option.bind (mR M a0 6) (fun r17 => Option.bind (mR M a0 0) (fun r18 => grd (okO M 10 r18) (Option.bind (mR M r18 5) (fun r20 => grd (okO M 14 r20) (grd (vp_in x1 (mL M r20)) (Option.bind (mR M a0 0) (fun r23 => grd (okO M 10 r23) (Option.bind (mR M r23 4) (fun r25 => grd (okO M 14 r25) (grd (vp_in x1 (mL M r25)) (grd (okO M 4 r17) (Option.bind (f_X4_tableTo M r17 (mI M r20 x1.toNatClampNeg) (mI M r25 x1.toNatClampNeg)) (fun q29 => grd (okO q29.1 2 q29.2) (Option.bind (f_X2_spread q29.1 q29.2 (-1) 1) (fun q35 => Option.bind (mR q35 a0 5) (fun r41 => Option.bind (mR q35 a0 0) (fun r42 => grd (okO q35 10 r42) (Option.bind (mR q35 r42 5) (fun r44 => Option.bind (mR q35 a0 0) (fun r45 => grd (okO q35 10 r45) (Option.bind (mR q35 r45 3) (fun r47 => grd (okO q35 14 r47) (grd (vp_in x1 (mL q35 r47)) (grd (okO q35 14 r44) (grd (vp_in (mI q35 r47 x1.toNatClampNeg) (mL q35 r44)) (grd (okO q35 1 r41) (Option.bind (f_X1_listAll q35 r41 (mI q35 r44 (mI q35 r47 x1.toNatClampNeg).toNatClampNeg)) (fun q53 => Option.bind (mR q53 a0 5) (fun r59 => grd (okO q53 1 r59) (Option.bind (f_X1_lowestMade q53 r59 (-1) q29.2 1) (fun q61 => Option.bind (loopO (σ := Int32 × Int32 × Int32) (ρ := Int32 × Int32) (fun s64 => Option.bind (mR q53 a0 5) (fun r72 => grd (okO q53 1 r72) (if (mI q53 r72 5) ≤ s64.2.2 then (some (.inr (s64.1, s64.2.1))) else (if s64.1 = (-1) then (some (.inr (s64.1, s64.2.1))) else (if s64.2.1 = x2 then (some (.inr (s64.1, s64.2.1))) else (bv (s64.2.1 + 1 : Int32) (fun x74 => Option.bind (mR q53 a0 5) (fun r75 => grd (okO q53 1 r75) (Option.bind (f_X1_lowestMade q53 r75 s64.1 q29.2 1) (fun q77 => bv (s64.2.2 + 1 : Int32) (fun x80 => some (.inl (q77, x74, x80))))))))))))) (q61, 0, 0)) (fun (x70 : Int32 × Int32) => if x2 = (-1) then (some (q53, x70.2)) else (Option.bind (f_X6_numberOf x70.1) (fun q81 => some (q53, q81)))))))))))))))))))))))))))))))))))) else (some (M, (-1)))))))))))))))))
abbrev Y_X11_between : Sta := (RX11, "between", cX11_between, 7, (some .int), 7)
set_option maxRecDepth 100000 in
set_option maxHeartbeats 8000000 in
theorem t_X11_between {l : Launch} {G : Gh} {M : Mem} {a0 : Nat} {x1 : Int32} {x2 : Int32} {q : Mem × Int32} (h : f_X11_between M a0 x1 x2 = some q) : Ctr l G yX11_between Y_X11_between M [.ref (gh G + a0), .int x1, .int x2] q.1 (some (.int q.2)) := by
  refine Ctr.of (Y := Y_X11_between) (L := [some (.ref (gh G + a0)), some (.int x1), some (.int x2), none, none, none, none]) (t := Option.bind (f_X11_between M a0 x1 x2) (fun q => some (q.1, some (.int q.2)))) (by decide) rfl rfl (nle rfl) (Lof_in 4 _ rfl) (fun X hG hl => ?_) (by rw [h]; rfl)
  subst hG
  subst hl
  unfold f_X11_between
  refine s_aload_n (pc := 0) 0 dX11_between_0 rfl rfl ?_
  refine s_grd (fun o1 => ?_)
  refine s_geto (pc := 1) F_11 0 rfl o1 dX11_between_1 kf_X11_10 ?_
  refine s_rvB (fun r2 => ?_)
  refine s_iload_n (pc := 4) 1 dX11_between_4 rfl rfl ?_
  refine s_grd (fun o3 => ?_)
  refine s_bind (fun q4 hq5 => ?_)
  have hC6 := t_X10_hasHouse (l := xl X) (G := xG X) hq5
  refine s_callV (pc := 5) (As := [.int x1]) (st := []) (nlt rfl) (q := (RX10, TX10, 15)) rfl rfl o3 cl_X10_hasHouse wi_X10_hasHouse wl_X10_hasHouse km_X11_119 rfl rfl (nle rfl) (nle rfl) (nle rfl) dX11_between_5 hC6 ?_
  show S0 X _ M 8 [some (.ref (gh (xG X) + a0)), some (.int x1), some (.int x2), none, none, none, none] [.int q4] _
  refine s_ifeq (pc := 8) 35 dX11_between_8 rfl ?_ ?_
  · refine s_iconst (pc := 35) (-1) dX11_between_35 kc_m1 ?_
    exact s_iret rfl dX11_between_36
  · refine s_aload_n (pc := 11) 0 dX11_between_11 rfl rfl ?_
    refine s_geto (pc := 12) F_11 0 rfl o1 dX11_between_12 kf_X11_10 ?_
    refine s_rvB (fun r7 => ?_)
    refine s_aload_n (pc := 15) 0 dX11_between_15 rfl rfl ?_
    refine s_geto (pc := 16) F_11 0 rfl o1 dX11_between_16 kf_X11_10 ?_
    refine s_rvB (fun r8 => ?_)
    refine s_grd (fun o9 => ?_)
    refine s_getoN (pc := 19) F_10 3 rfl o9 dX11_between_19 (List.mem_of_getElem? (i := 4) rfl) ?_
    refine s_rvB (fun r10 => ?_)
    refine s_iload_n (pc := 22) 1 dX11_between_22 rfl rfl ?_
    refine s_grd (fun o11 => ?_)
    refine s_grd (fun i12 => ?_)
    refine s_iald (pc := 23) o11 i12 dX11_between_23 ?_
    refine s_grd (fun o13 => ?_)
    refine s_bind (fun q14 hq15 => ?_)
    have hC16 := t_X10_hasHouse (l := xl X) (G := xG X) hq15
    refine s_callV (pc := 24) (As := [.int (mI M r10 x1.toNatClampNeg)]) (st := []) (nlt rfl) (q := (RX10, TX10, 15)) rfl rfl o13 cl_X10_hasHouse wi_X10_hasHouse wl_X10_hasHouse km_X11_119 rfl rfl (nle rfl) (nle rfl) (nle rfl) dX11_between_24 hC16 ?_
    show S0 X _ M 27 [some (.ref (gh (xG X) + a0)), some (.int x1), some (.int x2), none, none, none, none] [.int q14] _
    refine s_ifeq (pc := 27) 35 dX11_between_27 rfl ?_ ?_
    · refine s_iconst (pc := 35) (-1) dX11_between_35 kc_m1 ?_
      exact s_iret rfl dX11_between_36
    · refine s_iload_n (pc := 30) 2 dX11_between_30 rfl rfl ?_
      refine s_iconst (pc := 31) (-1) dX11_between_31 kc_m1 ?_
      refine s_icge (pc := 32) 37 dX11_between_32 rfl ?_ ?_
      · refine s_aload_n (pc := 37) 0 dX11_between_37 rfl rfl ?_
        refine s_geto (pc := 38) F_11 6 rfl o1 dX11_between_38 kf_X11_55 ?_
        refine s_rvB (fun r17 => ?_)
        refine s_aload_n (pc := 41) 0 dX11_between_41 rfl rfl ?_
        refine s_geto (pc := 42) F_11 0 rfl o1 dX11_between_42 kf_X11_10 ?_
        refine s_rvB (fun r18 => ?_)
        refine s_grd (fun o19 => ?_)
        refine s_getoN (pc := 45) F_10 5 rfl o19 dX11_between_45 (List.mem_of_getElem? (i := 7) rfl) ?_
        refine s_rvB (fun r20 => ?_)
        refine s_iload_n (pc := 48) 1 dX11_between_48 rfl rfl ?_
        refine s_grd (fun o21 => ?_)
        refine s_grd (fun i22 => ?_)
        refine s_iald (pc := 49) o21 i22 dX11_between_49 ?_
        refine s_aload_n (pc := 50) 0 dX11_between_50 rfl rfl ?_
        refine s_geto (pc := 51) F_11 0 rfl o1 dX11_between_51 kf_X11_10 ?_
        refine s_rvB (fun r23 => ?_)
        refine s_grd (fun o24 => ?_)
        refine s_getoN (pc := 54) F_10 4 rfl o24 dX11_between_54 (List.mem_of_getElem? (i := 5) rfl) ?_
        refine s_rvB (fun r25 => ?_)
        refine s_iload_n (pc := 57) 1 dX11_between_57 rfl rfl ?_
        refine s_grd (fun o26 => ?_)
        refine s_grd (fun i27 => ?_)
        refine s_iald (pc := 58) o26 i27 dX11_between_58 ?_
        refine s_grd (fun o28 => ?_)
        refine s_bind (fun q29 hq30 => ?_)
        have hC31 := t_X4_tableTo (l := xl X) (G := xG X) hq30
        refine s_callV (pc := 59) (As := [.int (mI M r20 x1.toNatClampNeg), .int (mI M r25 x1.toNatClampNeg)]) (st := []) (nlt rfl) (q := (RX4, TX4, 10)) rfl rfl o28 cl_X4_tableTo wi_X4_tableTo wl_X4_tableTo km_X11_252 rfl rfl (nle rfl) (nle rfl) (nle rfl) dX11_between_59 hC31 ?_
        have h32 := hC31.1 X
        have o33 := h32.ok o1
        show S0 X _ q29.1 62 [some (.ref (gh (xG X) + a0)), some (.int x1), some (.int x2), none, none, none, none] [.ref (gh (xG X) + q29.2)] _
        refine s_astore_n (pc := 62) 3 dX11_between_62 rfl (nlt rfl) rfl (L' := [some (.ref (gh (xG X) + a0)), some (.int x1), some (.int x2), some (.ref (gh (xG X) + q29.2)), none, none, none]) rfl ?_
        refine s_aload_n (pc := 63) 3 dX11_between_63 rfl rfl ?_
        refine s_iconst (pc := 64) (-1) dX11_between_64 kc_m1 ?_
        refine s_iconst (pc := 65) 1 dX11_between_65 kc_1 ?_
        refine s_grd (fun o34 => ?_)
        refine s_bind (fun q35 hq36 => ?_)
        have hC37 := t_X2_spread (l := xl X) (G := xG X) hq36
        refine s_callV (pc := 66) (As := [.int (-1), .int 1]) (st := []) (nlt rfl) (q := (RX2, TX2, 11)) rfl rfl o34 cl_X2_spread wi_X2_spread wl_X2_spread km_X11_260 rfl rfl (nle rfl) (nle rfl) (nle rfl) dX11_between_66 hC37 ?_
        have h38 := hC37.1 X
        have o39 := h38.ok o33
        have o40 := h38.ok o34
        show S0 X _ q35 69 [some (.ref (gh (xG X) + a0)), some (.int x1), some (.int x2), some (.ref (gh (xG X) + q29.2)), none, none, none] [] _
        refine s_aload_n (pc := 69) 0 dX11_between_69 rfl rfl ?_
        refine s_geto (pc := 70) F_11 5 rfl o39 dX11_between_70 kf_X11_48 ?_
        refine s_rvB (fun r41 => ?_)
        refine s_aload_n (pc := 73) 0 dX11_between_73 rfl rfl ?_
        refine s_geto (pc := 74) F_11 0 rfl o39 dX11_between_74 kf_X11_10 ?_
        refine s_rvB (fun r42 => ?_)
        refine s_grd (fun o43 => ?_)
        refine s_getoN (pc := 77) F_10 5 rfl o43 dX11_between_77 (List.mem_of_getElem? (i := 7) rfl) ?_
        refine s_rvB (fun r44 => ?_)
        refine s_aload_n (pc := 80) 0 dX11_between_80 rfl rfl ?_
        refine s_geto (pc := 81) F_11 0 rfl o39 dX11_between_81 kf_X11_10 ?_
        refine s_rvB (fun r45 => ?_)
        refine s_grd (fun o46 => ?_)
        refine s_getoN (pc := 84) F_10 3 rfl o46 dX11_between_84 (List.mem_of_getElem? (i := 4) rfl) ?_
        refine s_rvB (fun r47 => ?_)
        refine s_iload_n (pc := 87) 1 dX11_between_87 rfl rfl ?_
        refine s_grd (fun o48 => ?_)
        refine s_grd (fun i49 => ?_)
        refine s_iald (pc := 88) o48 i49 dX11_between_88 ?_
        refine s_grd (fun o50 => ?_)
        refine s_grd (fun i51 => ?_)
        refine s_iald (pc := 89) o50 i51 dX11_between_89 ?_
        refine s_grd (fun o52 => ?_)
        refine s_bind (fun q53 hq54 => ?_)
        have hC55 := t_X1_listAll (l := xl X) (G := xG X) hq54
        refine s_callV (pc := 90) (As := [.int (mI q35 r44 (mI q35 r47 x1.toNatClampNeg).toNatClampNeg)]) (st := []) (nlt rfl) (q := (RX1, TX1, 8)) rfl rfl o52 cl_X1_listAll wi_X1_listAll wl_X1_listAll km_X11_245 rfl rfl (nle rfl) (nle rfl) (nle rfl) dX11_between_90 hC55 ?_
        have h56 := hC55.1 X
        have o57 := h56.ok o39
        have o58 := h56.ok o40
        show S0 X _ q53 93 [some (.ref (gh (xG X) + a0)), some (.int x1), some (.int x2), some (.ref (gh (xG X) + q29.2)), none, none, none] [] _
        refine s_aload_n (pc := 93) 0 dX11_between_93 rfl rfl ?_
        refine s_geto (pc := 94) F_11 5 rfl o57 dX11_between_94 kf_X11_48 ?_
        refine s_rvB (fun r59 => ?_)
        refine s_iconst (pc := 97) (-1) dX11_between_97 kc_m1 ?_
        refine s_aload_n (pc := 98) 3 dX11_between_98 rfl rfl ?_
        refine s_iconst (pc := 99) 1 dX11_between_99 kc_1 ?_
        refine s_grd (fun o60 => ?_)
        refine s_bind (fun q61 hq62 => ?_)
        have hC63 := t_X1_lowestMade (l := xl X) (G := xG X) hq62
        refine s_callV (pc := 100) (As := [.int (-1), .ref (gh (xG X) + q29.2), .int 1]) (st := []) (nlt rfl) (q := (RX1, TX1, 8)) rfl rfl o60 cl_X1_lowestMade wi_X1_lowestMade wl_X1_lowestMade km_X11_256 rfl rfl (nle rfl) (nle rfl) (nle rfl) dX11_between_100 hC63 ?_
        show S0 X _ q53 103 [some (.ref (gh (xG X) + a0)), some (.int x1), some (.int x2), some (.ref (gh (xG X) + q29.2)), none, none, none] [.int q61] _
        refine s_istore (pc := 103) dX11_between_103 (nlt rfl) rfl (L' := [some (.ref (gh (xG X) + a0)), some (.int x1), some (.int x2), some (.ref (gh (xG X) + q29.2)), some (.int q61), none, none]) rfl ?_
        refine s_iconst (pc := 105) 0 dX11_between_105 kc_0 ?_
        refine s_istore (pc := 106) dX11_between_106 (nlt rfl) rfl (L' := [some (.ref (gh (xG X) + a0)), some (.int x1), some (.int x2), some (.ref (gh (xG X) + q29.2)), some (.int q61), some (.int 0), none]) rfl ?_
        refine s_iconst (pc := 108) 0 dX11_between_108 kc_0 ?_
        refine s_istore (pc := 109) dX11_between_109 (nlt rfl) rfl (L' := [some (.ref (gh (xG X) + a0)), some (.int x1), some (.int x2), some (.ref (gh (xG X) + q29.2)), some (.int q61), some (.int 0), some (.int 0)]) rfl ?_
        refine s_drop (L' := [some (.ref (gh (xG X) + a0)), none, some (.int x2), some (.ref (gh (xG X) + q29.2)), some (.int q61), some (.int 0), some (.int 0)]) ?_ (And.intro rfl (And.intro rfl (And.intro rfl (And.intro rfl (And.intro rfl (And.intro rfl trivial))))))
        refine s_loop1 q53 (fun s64 : Int32 × Int32 × Int32 => q53) (fun s64 : Int32 × Int32 × Int32 => [some (.ref (gh (xG X) + a0)), none, some (.int x2), some (.ref (gh (xG X) + q29.2)), some (.int s64.1), some (.int s64.2.1), some (.int s64.2.2)]) (fun x70 : Int32 × Int32 => q53) 157 (fun x70 : Int32 × Int32 => [none, none, some (.int x2), none, some (.int x70.1), some (.int x70.2), none]) (fun x70 hx71 => ?_) (fun T66 R68 hT67 hR69 s64 hs65 => ?_) (q61, 0, 0) Le.rf
        · show S0 X _ q53 157 [none, none, some (.int x2), none, some (.int x70.1), some (.int x70.2), none] [] _
          refine s_iload_n (pc := 157) 2 dX11_between_157 rfl rfl ?_
          refine s_iconst (pc := 158) (-1) dX11_between_158 kc_m1 ?_
          refine s_icne (pc := 159) 167 dX11_between_159 rfl ?_ ?_
          · refine s_iload (pc := 167) dX11_between_167 rfl ?_
            refine s_bind (fun q81 hq82 => ?_)
            have hC83 := t_X6_numberOf (l := xl X) (G := xG X) (M := q53) hq82
            refine s_callS (pc := 169) (As := [.int x70.1]) (st := []) cl_X6_numberOf wt_X6_numberOf km_X11_146 rfl rfl (nle rfl) (nle rfl) (nle rfl) dX11_between_169 hC83 ?_
            show S0 X _ q53 172 [none, none, some (.int x2), none, some (.int x70.1), some (.int x70.2), none] [.int q81] _
            exact s_iret rfl dX11_between_172
          · refine s_iload (pc := 162) dX11_between_162 rfl ?_
            refine s_goto (pc := 164) 172 dX11_between_164 rfl ?_
            exact s_iret rfl dX11_between_172
        · show S0 X _ q53 111 [some (.ref (gh (xG X) + a0)), none, some (.int x2), some (.ref (gh (xG X) + q29.2)), some (.int s64.1), some (.int s64.2.1), some (.int s64.2.2)] [] _
          refine s_iload (pc := 111) dX11_between_111 rfl ?_
          refine s_aload_n (pc := 113) 0 dX11_between_113 rfl rfl ?_
          refine s_geto (pc := 114) F_11 5 rfl o57 dX11_between_114 kf_X11_48 ?_
          refine s_rvB (fun r72 => ?_)
          refine s_grd (fun o73 => ?_)
          refine s_geti (pc := 117) F_1 5 rfl o73 dX11_between_117 kf_X11_248 ?_
          refine s_icge (pc := 120) 157 dX11_between_120 rfl ?_ ?_
          · exact s_drop (hR69 (s64.1, s64.2.1) Le.rf) (And.intro rfl (And.intro rfl (And.intro rfl trivial)))
          · refine s_iload (pc := 123) dX11_between_123 rfl ?_
            refine s_iconst (pc := 125) (-1) dX11_between_125 kc_m1 ?_
            refine s_iceq (pc := 126) 157 dX11_between_126 rfl ?_ ?_
            · exact s_drop (hR69 (s64.1, s64.2.1) Le.rf) (And.intro rfl (And.intro rfl (And.intro rfl trivial)))
            · refine s_iload (pc := 129) dX11_between_129 rfl ?_
              refine s_iload_n (pc := 131) 2 dX11_between_131 rfl rfl ?_
              refine s_iceq (pc := 132) 157 dX11_between_132 rfl ?_ ?_
              · exact s_drop (hR69 (s64.1, s64.2.1) Le.rf) (And.intro rfl (And.intro rfl (And.intro rfl trivial)))
              · refine s_iinc (pc := 135) dX11_between_135 rfl (v := s64.2.1 + 1) (congrArg (fun z : Int32 => s64.2.1 + z) kc_1) (nlt rfl) rfl (L' := [some (.ref (gh (xG X) + a0)), none, some (.int x2), some (.ref (gh (xG X) + q29.2)), some (.int s64.1), some (.int (s64.2.1 + 1)), some (.int s64.2.2)]) rfl ?_
                refine s_bv (fun x74 : Int32 => [some (.ref (gh (xG X) + a0)), none, some (.int x2), some (.ref (gh (xG X) + q29.2)), some (.int s64.1), some (.int x74), some (.int s64.2.2)]) (fun x74 => ?_) rfl
                refine s_aload_n (pc := 138) 0 dX11_between_138 rfl rfl ?_
                refine s_geto (pc := 139) F_11 5 rfl o57 dX11_between_139 kf_X11_48 ?_
                refine s_rvB (fun r75 => ?_)
                refine s_iload (pc := 142) dX11_between_142 rfl ?_
                refine s_aload_n (pc := 144) 3 dX11_between_144 rfl rfl ?_
                refine s_iconst (pc := 145) 1 dX11_between_145 kc_1 ?_
                refine s_grd (fun o76 => ?_)
                refine s_bind (fun q77 hq78 => ?_)
                have hC79 := t_X1_lowestMade (l := xl X) (G := xG X) hq78
                refine s_callV (pc := 146) (As := [.int s64.1, .ref (gh (xG X) + q29.2), .int 1]) (st := []) (nlt rfl) (q := (RX1, TX1, 8)) rfl rfl o76 cl_X1_lowestMade wi_X1_lowestMade wl_X1_lowestMade km_X11_256 rfl rfl (nle rfl) (nle rfl) (nle rfl) dX11_between_146 hC79 ?_
                show S0 X _ q53 149 [some (.ref (gh (xG X) + a0)), none, some (.int x2), some (.ref (gh (xG X) + q29.2)), some (.int s64.1), some (.int x74), some (.int s64.2.2)] [.int q77] _
                refine s_istore (pc := 149) dX11_between_149 (nlt rfl) rfl (L' := [some (.ref (gh (xG X) + a0)), none, some (.int x2), some (.ref (gh (xG X) + q29.2)), some (.int q77), some (.int x74), some (.int s64.2.2)]) rfl ?_
                refine s_iinc (pc := 151) dX11_between_151 rfl (v := s64.2.2 + 1) (congrArg (fun z : Int32 => s64.2.2 + z) kc_1) (nlt rfl) rfl (L' := [some (.ref (gh (xG X) + a0)), none, some (.int x2), some (.ref (gh (xG X) + q29.2)), some (.int q77), some (.int x74), some (.int (s64.2.2 + 1))]) rfl ?_
                refine s_bv (fun x80 : Int32 => [some (.ref (gh (xG X) + a0)), none, some (.int x2), some (.ref (gh (xG X) + q29.2)), some (.int q77), some (.int x74), some (.int x80)]) (fun x80 => ?_) rfl
                refine s_goto (pc := 154) 111 dX11_between_154 rfl ?_
                exact s_drop (hT67 (q77, x74, x80) Le.rf) (And.intro rfl (And.intro rfl (And.intro rfl (And.intro rfl (And.intro rfl (And.intro rfl trivial))))))
      · refine s_iconst (pc := 35) (-1) dX11_between_35 kc_m1 ?_
        exact s_iret rfl dX11_between_36
noncomputable def f_X11_born (M : Mem) (a0 : Nat) (x1 : Int32) (x2 : Int32) (x3 : Int32) (x4 : Int32) : Option (Mem × Int32) :=
  grd (okO M 11 a0) (Option.bind (f_X11_giveBirth M a0 x1 x2 x3 x4) (fun q2 => Option.bind (f_X11_settle q2.1 a0 q2.2) (fun q7 => some (q7.1, q7.2))))
abbrev Y_X11_born : Sta := (RX11, "born", cX11_born, 5, (some .int), 7)
set_option maxRecDepth 100000 in
set_option maxHeartbeats 8000000 in
theorem t_X11_born {l : Launch} {G : Gh} {M : Mem} {a0 : Nat} {x1 : Int32} {x2 : Int32} {x3 : Int32} {x4 : Int32} {q : Mem × Int32} (h : f_X11_born M a0 x1 x2 x3 x4 = some q) : Ctr l G yX11_born Y_X11_born M [.ref (gh G + a0), .int x1, .int x2, .int x3, .int x4] q.1 (some (.int q.2)) := by
  refine Ctr.of (Y := Y_X11_born) (L := [some (.ref (gh G + a0)), some (.int x1), some (.int x2), some (.int x3), some (.int x4)]) (t := Option.bind (f_X11_born M a0 x1 x2 x3 x4) (fun q => some (q.1, some (.int q.2)))) (by decide) rfl rfl (nle rfl) (Lof_in 0 _ rfl) (fun X hG hl => ?_) (by rw [h]; rfl)
  subst hG
  subst hl
  unfold f_X11_born
  refine s_aload_n (pc := 0) 0 dX11_born_0 rfl rfl ?_
  refine s_aload_n (pc := 1) 0 dX11_born_1 rfl rfl ?_
  refine s_iload_n (pc := 2) 1 dX11_born_2 rfl rfl ?_
  refine s_iload_n (pc := 3) 2 dX11_born_3 rfl rfl ?_
  refine s_iload_n (pc := 4) 3 dX11_born_4 rfl rfl ?_
  refine s_iload (pc := 5) dX11_born_5 rfl ?_
  refine s_grd (fun o1 => ?_)
  refine s_bind (fun q2 hq3 => ?_)
  have hC4 := t_X11_giveBirth (l := xl X) (G := xG X) hq3
  refine s_callV (pc := 7) (As := [.int x1, .int x2, .int x3, .int x4]) (st := [.ref (gh (xG X) + a0)]) (nlt rfl) (q := (RX11, TX11, 16)) rfl rfl o1 cl_X11_giveBirth wi_X11_giveBirth wl_X11_giveBirth km_X11_132 rfl rfl (nle rfl) (nle rfl) (nle rfl) dX11_born_7 hC4 ?_
  have h5 := hC4.1 X
  have o6 := h5.ok o1
  show S0 X _ q2.1 10 [some (.ref (gh (xG X) + a0)), some (.int x1), some (.int x2), some (.int x3), some (.int x4)] [.int q2.2, .ref (gh (xG X) + a0)] _
  refine s_bind (fun q7 hq8 => ?_)
  have hC9 := t_X11_settle (l := xl X) (G := xG X) hq8
  refine s_callV (pc := 10) (As := [.int q2.2]) (st := []) (nlt rfl) (q := (RX11, TX11, 16)) rfl rfl o6 cl_X11_settle wi_X11_settle wl_X11_settle km_X11_129 rfl rfl (nle rfl) (nle rfl) (nle rfl) dX11_born_10 hC9 ?_
  have h10 := hC9.1 X
  have o11 := h10.ok o6
  show S0 X _ q7.1 13 [some (.ref (gh (xG X) + a0)), some (.int x1), some (.int x2), some (.int x3), some (.int x4)] [.int q7.2] _
  exact s_iret rfl dX11_born_13
noncomputable def f_X11_changes (M : Mem) (a0 : Nat) (x1 : Int32) (x2 : Int32) : Option (Mem × Int32) :=
  Option.bind (f_X6_rankOf x1) (fun q1 => if q1 = (-1) then (some (M, (-1))) else (if (-1) ≤ x2 then (grd (okO M 11 a0) (Option.bind (mR M a0 4) (fun r5 => Option.bind (mR M a0 0) (fun r6 => grd (okO M 10 r6) (grd (okO M 8 r5) (Option.bind (f_X8_open M r5 (mI M r6 11)) (fun q9 => Option.bind (mR q9 a0 5) (fun r14 => grd (okO q9 1 r14) (Option.bind (f_X1_listAll q9 r14 q1) (fun q16 => if x2 = (-1) then (Option.bind (mR q16 a0 5) (fun r31 => grd (okO q16 1 r31) (some (q16, mI q16 r31 5)))) else (Option.bind (mR q16 a0 5) (fun r21 => grd (okO q16 1 r21) (if (mI q16 r21 5) ≤ x2 then (some (q16, (-1))) else (Option.bind (mR q16 a0 5) (fun r23 => grd (okO q16 1 r23) (Option.bind (mR q16 r23 3) (fun r25 => grd (okO q16 14 r25) (grd (vp_in x2 (mL q16 r25)) (Option.bind (f_X6_numberOf (mI q16 r25 x2.toNatClampNeg)) (fun q28 => some (q16, q28))))))))))))))))))))) else (some (M, (-1)))))
abbrev Y_X11_changes : Sta := (RX11, "changes", cX11_changes, 4, (some .int), 7)
set_option maxRecDepth 100000 in
set_option maxHeartbeats 8000000 in
theorem t_X11_changes {l : Launch} {G : Gh} {M : Mem} {a0 : Nat} {x1 : Int32} {x2 : Int32} {q : Mem × Int32} (h : f_X11_changes M a0 x1 x2 = some q) : Ctr l G yX11_changes Y_X11_changes M [.ref (gh G + a0), .int x1, .int x2] q.1 (some (.int q.2)) := by
  refine Ctr.of (Y := Y_X11_changes) (L := [some (.ref (gh G + a0)), some (.int x1), some (.int x2), none]) (t := Option.bind (f_X11_changes M a0 x1 x2) (fun q => some (q.1, some (.int q.2)))) (by decide) rfl rfl (nle rfl) (Lof_in 1 _ rfl) (fun X hG hl => ?_) (by rw [h]; rfl)
  subst hG
  subst hl
  unfold f_X11_changes
  refine s_iload_n (pc := 0) 1 dX11_changes_0 rfl rfl ?_
  refine s_bind (fun q1 hq2 => ?_)
  have hC3 := t_X6_rankOf (l := xl X) (G := xG X) (M := M) hq2
  refine s_callS (pc := 1) (As := [.int x1]) (st := []) cl_X6_rankOf wt_X6_rankOf km_X11_111 rfl rfl (nle rfl) (nle rfl) (nle rfl) dX11_changes_1 hC3 ?_
  show S0 X _ M 4 [some (.ref (gh (xG X) + a0)), some (.int x1), some (.int x2), none] [.int q1] _
  refine s_istore_n (pc := 4) 3 dX11_changes_4 rfl (nlt rfl) rfl (L' := [some (.ref (gh (xG X) + a0)), some (.int x1), some (.int x2), some (.int q1)]) rfl ?_
  refine s_iload_n (pc := 5) 3 dX11_changes_5 rfl rfl ?_
  refine s_iconst (pc := 6) (-1) dX11_changes_6 kc_m1 ?_
  refine s_iceq (pc := 7) 15 dX11_changes_7 rfl ?_ ?_
  · refine s_iconst (pc := 15) (-1) dX11_changes_15 kc_m1 ?_
    exact s_iret rfl dX11_changes_16
  · refine s_iload_n (pc := 10) 2 dX11_changes_10 rfl rfl ?_
    refine s_iconst (pc := 11) (-1) dX11_changes_11 kc_m1 ?_
    refine s_icge (pc := 12) 17 dX11_changes_12 rfl ?_ ?_
    · refine s_aload_n (pc := 17) 0 dX11_changes_17 rfl rfl ?_
      refine s_grd (fun o4 => ?_)
      refine s_geto (pc := 18) F_11 4 rfl o4 dX11_changes_18 kf_X11_39 ?_
      refine s_rvB (fun r5 => ?_)
      refine s_aload_n (pc := 21) 0 dX11_changes_21 rfl rfl ?_
      refine s_geto (pc := 22) F_11 0 rfl o4 dX11_changes_22 kf_X11_10 ?_
      refine s_rvB (fun r6 => ?_)
      refine s_grd (fun o7 => ?_)
      refine s_getiN (pc := 25) F_10 11 rfl o7 dX11_changes_25 (List.mem_of_getElem? (i := 14) rfl) ?_
      refine s_grd (fun o8 => ?_)
      refine s_bind (fun q9 hq10 => ?_)
      have hC11 := t_X8_open (l := xl X) (G := xG X) hq10
      refine s_callV (pc := 28) (As := [.int (mI M r6 11)]) (st := []) (nlt rfl) (q := (RX8, TX8, 7)) rfl rfl o8 cl_X8_open wi_X8_open wl_X8_open km_X11_233 rfl rfl (nle rfl) (nle rfl) (nle rfl) dX11_changes_28 hC11 ?_
      have h12 := hC11.1 X
      have o13 := h12.ok o4
      show S0 X _ q9 31 [some (.ref (gh (xG X) + a0)), some (.int x1), some (.int x2), some (.int q1)] [] _
      refine s_aload_n (pc := 31) 0 dX11_changes_31 rfl rfl ?_
      refine s_geto (pc := 32) F_11 5 rfl o13 dX11_changes_32 kf_X11_48 ?_
      refine s_rvB (fun r14 => ?_)
      refine s_iload_n (pc := 35) 3 dX11_changes_35 rfl rfl ?_
      refine s_grd (fun o15 => ?_)
      refine s_bind (fun q16 hq17 => ?_)
      have hC18 := t_X1_listAll (l := xl X) (G := xG X) hq17
      refine s_callV (pc := 36) (As := [.int q1]) (st := []) (nlt rfl) (q := (RX1, TX1, 8)) rfl rfl o15 cl_X1_listAll wi_X1_listAll wl_X1_listAll km_X11_245 rfl rfl (nle rfl) (nle rfl) (nle rfl) dX11_changes_36 hC18 ?_
      have h19 := hC18.1 X
      have o20 := h19.ok o13
      show S0 X _ q16 39 [some (.ref (gh (xG X) + a0)), some (.int x1), some (.int x2), some (.int q1)] [] _
      refine s_iload_n (pc := 39) 2 dX11_changes_39 rfl rfl ?_
      refine s_iconst (pc := 40) (-1) dX11_changes_40 kc_m1 ?_
      refine s_icne (pc := 41) 52 dX11_changes_41 rfl ?_ ?_
      · refine s_iload_n (pc := 52) 2 dX11_changes_52 rfl rfl ?_
        refine s_aload_n (pc := 53) 0 dX11_changes_53 rfl rfl ?_
        refine s_geto (pc := 54) F_11 5 rfl o20 dX11_changes_54 kf_X11_48 ?_
        refine s_rvB (fun r21 => ?_)
        refine s_grd (fun o22 => ?_)
        refine s_geti (pc := 57) F_1 5 rfl o22 dX11_changes_57 kf_X11_248 ?_
        refine s_icge (pc := 60) 78 dX11_changes_60 rfl ?_ ?_
        · refine s_iconst (pc := 78) (-1) dX11_changes_78 kc_m1 ?_
          exact s_iret rfl dX11_changes_79
        · refine s_aload_n (pc := 63) 0 dX11_changes_63 rfl rfl ?_
          refine s_geto (pc := 64) F_11 5 rfl o20 dX11_changes_64 kf_X11_48 ?_
          refine s_rvB (fun r23 => ?_)
          refine s_grd (fun o24 => ?_)
          refine s_geto (pc := 67) F_1 3 rfl o24 dX11_changes_67 kf_X11_249 ?_
          refine s_rvB (fun r25 => ?_)
          refine s_iload_n (pc := 70) 2 dX11_changes_70 rfl rfl ?_
          refine s_grd (fun o26 => ?_)
          refine s_grd (fun i27 => ?_)
          refine s_iald (pc := 71) o26 i27 dX11_changes_71 ?_
          refine s_bind (fun q28 hq29 => ?_)
          have hC30 := t_X6_numberOf (l := xl X) (G := xG X) (M := q16) hq29
          refine s_callS (pc := 72) (As := [.int (mI q16 r25 x2.toNatClampNeg)]) (st := []) cl_X6_numberOf wt_X6_numberOf km_X11_146 rfl rfl (nle rfl) (nle rfl) (nle rfl) dX11_changes_72 hC30 ?_
          show S0 X _ q16 75 [some (.ref (gh (xG X) + a0)), some (.int x1), some (.int x2), some (.int q1)] [.int q28] _
          refine s_goto (pc := 75) 79 dX11_changes_75 rfl ?_
          exact s_iret rfl dX11_changes_79
      · refine s_aload_n (pc := 44) 0 dX11_changes_44 rfl rfl ?_
        refine s_geto (pc := 45) F_11 5 rfl o20 dX11_changes_45 kf_X11_48 ?_
        refine s_rvB (fun r31 => ?_)
        refine s_grd (fun o32 => ?_)
        refine s_geti (pc := 48) F_1 5 rfl o32 dX11_changes_48 kf_X11_248 ?_
        exact s_iret rfl dX11_changes_51
    · refine s_iconst (pc := 15) (-1) dX11_changes_15 kc_m1 ?_
      exact s_iret rfl dX11_changes_16
noncomputable def f_X11_keepsCustom (M : Mem) (a0 : Nat) (x1 : Int32) : Option (Mem × Int32) :=
  grd (okO M 11 a0) (Option.bind (mR M a0 0) (fun r2 => grd (okO M 10 r2) (Option.bind (mR M r2 3) (fun r4 => grd (okO M 14 r4) (grd (vp_in x1 (mL M r4)) (bv (mI M r4 x1.toNatClampNeg : Int32) (fun x7 => Option.bind (mR M a0 0) (fun r8 => grd (okO M 10 r8) (Option.bind (f_X10_hasHouse M r8 x7) (fun q10 => if q10 = 0 then (some (M, 0)) else (Option.bind (mR M a0 4) (fun r13 => Option.bind (mR M a0 0) (fun r14 => grd (okO M 10 r14) (Option.bind (mR M r14 4) (fun r16 => grd (okO M 14 r16) (grd (vp_in x1 (mL M r16)) (grd (okO M 8 r13) (Option.bind (f_X8_open M r13 (mI M r16 x1.toNatClampNeg)) (fun q20 => Option.bind (mR q20 a0 5) (fun r25 => Option.bind (mR q20 a0 0) (fun r26 => grd (okO q20 10 r26) (Option.bind (mR q20 r26 5) (fun r28 => grd (okO q20 14 r28) (grd (vp_in x7 (mL q20 r28)) (grd (okO q20 1 r25) (Option.bind (f_X1_listAll q20 r25 (mI q20 r28 x7.toNatClampNeg)) (fun q32 => Option.bind (mR q32 a0 5) (fun r37 => Option.bind (mR q32 a0 0) (fun r38 => grd (okO q32 10 r38) (Option.bind (mR q32 r38 5) (fun r40 => grd (okO q32 14 r40) (grd (vp_in x1 (mL q32 r40)) (grd (okO q32 1 r37) (Option.bind (f_X1_hasMade q32 r37 (mI q32 r40 x1.toNatClampNeg)) (fun q44 => grd (bl q44) (some (q32, q44)))))))))))))))))))))))))))))))))))))
abbrev Y_X11_keepsCustom : Sta := (RX11, "keepsCustom", cX11_keepsCustom, 3, (some .boolean), 7)
set_option maxRecDepth 100000 in
set_option maxHeartbeats 8000000 in
theorem t_X11_keepsCustom {l : Launch} {G : Gh} {M : Mem} {a0 : Nat} {x1 : Int32} {q : Mem × Int32} (h : f_X11_keepsCustom M a0 x1 = some q) : Ctr l G yX11_keepsCustom Y_X11_keepsCustom M [.ref (gh G + a0), .int x1] q.1 (some (.int q.2)) := by
  refine Ctr.of (Y := Y_X11_keepsCustom) (L := [some (.ref (gh G + a0)), some (.int x1), none]) (t := Option.bind (f_X11_keepsCustom M a0 x1) (fun q => some (q.1, some (.int q.2)))) (by decide) rfl rfl (nle rfl) (Lof_in 1 _ rfl) (fun X hG hl => ?_) (by rw [h]; rfl)
  subst hG
  subst hl
  unfold f_X11_keepsCustom
  refine s_aload_n (pc := 0) 0 dX11_keepsCustom_0 rfl rfl ?_
  refine s_grd (fun o1 => ?_)
  refine s_geto (pc := 1) F_11 0 rfl o1 dX11_keepsCustom_1 kf_X11_10 ?_
  refine s_rvB (fun r2 => ?_)
  refine s_grd (fun o3 => ?_)
  refine s_getoN (pc := 4) F_10 3 rfl o3 dX11_keepsCustom_4 (List.mem_of_getElem? (i := 4) rfl) ?_
  refine s_rvB (fun r4 => ?_)
  refine s_iload_n (pc := 7) 1 dX11_keepsCustom_7 rfl rfl ?_
  refine s_grd (fun o5 => ?_)
  refine s_grd (fun i6 => ?_)
  refine s_iald (pc := 8) o5 i6 dX11_keepsCustom_8 ?_
  refine s_istore_n (pc := 9) 2 dX11_keepsCustom_9 rfl (nlt rfl) rfl (L' := [some (.ref (gh (xG X) + a0)), some (.int x1), some (.int (mI M r4 x1.toNatClampNeg))]) rfl ?_
  refine s_bv (fun x7 : Int32 => [some (.ref (gh (xG X) + a0)), some (.int x1), some (.int x7)]) (fun x7 => ?_) rfl
  refine s_aload_n (pc := 10) 0 dX11_keepsCustom_10 rfl rfl ?_
  refine s_geto (pc := 11) F_11 0 rfl o1 dX11_keepsCustom_11 kf_X11_10 ?_
  refine s_rvB (fun r8 => ?_)
  refine s_iload_n (pc := 14) 2 dX11_keepsCustom_14 rfl rfl ?_
  refine s_grd (fun o9 => ?_)
  refine s_bind (fun q10 hq11 => ?_)
  have hC12 := t_X10_hasHouse (l := xl X) (G := xG X) hq11
  refine s_callV (pc := 15) (As := [.int x7]) (st := []) (nlt rfl) (q := (RX10, TX10, 15)) rfl rfl o9 cl_X10_hasHouse wi_X10_hasHouse wl_X10_hasHouse km_X11_119 rfl rfl (nle rfl) (nle rfl) (nle rfl) dX11_keepsCustom_15 hC12 ?_
  show S0 X _ M 18 [some (.ref (gh (xG X) + a0)), some (.int x1), some (.int x7)] [.int q10] _
  refine s_ifne (pc := 18) 23 dX11_keepsCustom_18 rfl ?_ ?_
  · refine s_aload_n (pc := 23) 0 dX11_keepsCustom_23 rfl rfl ?_
    refine s_geto (pc := 24) F_11 4 rfl o1 dX11_keepsCustom_24 kf_X11_39 ?_
    refine s_rvB (fun r13 => ?_)
    refine s_aload_n (pc := 27) 0 dX11_keepsCustom_27 rfl rfl ?_
    refine s_geto (pc := 28) F_11 0 rfl o1 dX11_keepsCustom_28 kf_X11_10 ?_
    refine s_rvB (fun r14 => ?_)
    refine s_grd (fun o15 => ?_)
    refine s_getoN (pc := 31) F_10 4 rfl o15 dX11_keepsCustom_31 (List.mem_of_getElem? (i := 5) rfl) ?_
    refine s_rvB (fun r16 => ?_)
    refine s_iload_n (pc := 34) 1 dX11_keepsCustom_34 rfl rfl ?_
    refine s_grd (fun o17 => ?_)
    refine s_grd (fun i18 => ?_)
    refine s_iald (pc := 35) o17 i18 dX11_keepsCustom_35 ?_
    refine s_grd (fun o19 => ?_)
    refine s_bind (fun q20 hq21 => ?_)
    have hC22 := t_X8_open (l := xl X) (G := xG X) hq21
    refine s_callV (pc := 36) (As := [.int (mI M r16 x1.toNatClampNeg)]) (st := []) (nlt rfl) (q := (RX8, TX8, 7)) rfl rfl o19 cl_X8_open wi_X8_open wl_X8_open km_X11_233 rfl rfl (nle rfl) (nle rfl) (nle rfl) dX11_keepsCustom_36 hC22 ?_
    have h23 := hC22.1 X
    have o24 := h23.ok o1
    show S0 X _ q20 39 [some (.ref (gh (xG X) + a0)), some (.int x1), some (.int x7)] [] _
    refine s_aload_n (pc := 39) 0 dX11_keepsCustom_39 rfl rfl ?_
    refine s_geto (pc := 40) F_11 5 rfl o24 dX11_keepsCustom_40 kf_X11_48 ?_
    refine s_rvB (fun r25 => ?_)
    refine s_aload_n (pc := 43) 0 dX11_keepsCustom_43 rfl rfl ?_
    refine s_geto (pc := 44) F_11 0 rfl o24 dX11_keepsCustom_44 kf_X11_10 ?_
    refine s_rvB (fun r26 => ?_)
    refine s_grd (fun o27 => ?_)
    refine s_getoN (pc := 47) F_10 5 rfl o27 dX11_keepsCustom_47 (List.mem_of_getElem? (i := 7) rfl) ?_
    refine s_rvB (fun r28 => ?_)
    refine s_iload_n (pc := 50) 2 dX11_keepsCustom_50 rfl rfl ?_
    refine s_grd (fun o29 => ?_)
    refine s_grd (fun i30 => ?_)
    refine s_iald (pc := 51) o29 i30 dX11_keepsCustom_51 ?_
    refine s_grd (fun o31 => ?_)
    refine s_bind (fun q32 hq33 => ?_)
    have hC34 := t_X1_listAll (l := xl X) (G := xG X) hq33
    refine s_callV (pc := 52) (As := [.int (mI q20 r28 x7.toNatClampNeg)]) (st := []) (nlt rfl) (q := (RX1, TX1, 8)) rfl rfl o31 cl_X1_listAll wi_X1_listAll wl_X1_listAll km_X11_245 rfl rfl (nle rfl) (nle rfl) (nle rfl) dX11_keepsCustom_52 hC34 ?_
    have h35 := hC34.1 X
    have o36 := h35.ok o24
    show S0 X _ q32 55 [some (.ref (gh (xG X) + a0)), some (.int x1), some (.int x7)] [] _
    refine s_aload_n (pc := 55) 0 dX11_keepsCustom_55 rfl rfl ?_
    refine s_geto (pc := 56) F_11 5 rfl o36 dX11_keepsCustom_56 kf_X11_48 ?_
    refine s_rvB (fun r37 => ?_)
    refine s_aload_n (pc := 59) 0 dX11_keepsCustom_59 rfl rfl ?_
    refine s_geto (pc := 60) F_11 0 rfl o36 dX11_keepsCustom_60 kf_X11_10 ?_
    refine s_rvB (fun r38 => ?_)
    refine s_grd (fun o39 => ?_)
    refine s_getoN (pc := 63) F_10 5 rfl o39 dX11_keepsCustom_63 (List.mem_of_getElem? (i := 7) rfl) ?_
    refine s_rvB (fun r40 => ?_)
    refine s_iload_n (pc := 66) 1 dX11_keepsCustom_66 rfl rfl ?_
    refine s_grd (fun o41 => ?_)
    refine s_grd (fun i42 => ?_)
    refine s_iald (pc := 67) o41 i42 dX11_keepsCustom_67 ?_
    refine s_grd (fun o43 => ?_)
    refine s_bind (fun q44 hq45 => ?_)
    have hC46 := t_X1_hasMade (l := xl X) (G := xG X) hq45
    refine s_callV (pc := 68) (As := [.int (mI q32 r40 x1.toNatClampNeg)]) (st := []) (nlt rfl) (q := (RX1, TX1, 8)) rfl rfl o43 cl_X1_hasMade wi_X1_hasMade wl_X1_hasMade km_X11_368 rfl rfl (nle rfl) (nle rfl) (nle rfl) dX11_keepsCustom_68 hC46 ?_
    show S0 X _ q32 71 [some (.ref (gh (xG X) + a0)), some (.int x1), some (.int x7)] [.int q44] _
    refine s_grd (fun g47 => ?_)
    exact s_zret rfl g47 dX11_keepsCustom_71
  · refine s_iconst (pc := 21) 0 dX11_keepsCustom_21 kc_0 ?_
    exact s_zret rfl rfl dX11_keepsCustom_22
