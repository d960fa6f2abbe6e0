noncomputable def f_X5_search (M : Mem) (a0 : Nat) : Option Mem :=
  grd (okO M 5 a0) (bv (wI M a0 11 0) (fun M2 => Option.bind (f_X5_workFewest M2 a0) (fun q6 => Option.bind (f_X5_workFloor q6 a0) (fun q11 => Option.bind (mR q11 a0 4) (fun r16 => grd (okO q11 14 r16) (grd (vp_in ((sl 1 (mI q11 a0 7)) - 1) (mL q11 r16)) (bv (wI q11 a0 10 (mI q11 r16 ((sl 1 (mI q11 a0 7)) - 1).toNatClampNeg)) (fun M19 => if 1000000 ≤ (mI M19 a0 10) then (some M19) else (Option.bind (f_X5_seek 100 M19 a0 0 (-1) 0) (fun q23 => some q23))))))))))
abbrev Y_X5_search : Sta := (RX5, "search", cX5_search, 1, none, 103)
set_option maxRecDepth 100000 in
set_option maxHeartbeats 8000000 in
theorem t_X5_search {l : Launch} {G : Gh} {M : Mem} {a0 : Nat} {q : Mem} (h : f_X5_search M a0 = some q) : Ctr l G yX5_search Y_X5_search M [.ref (gh G + a0)] q (none) := by
  refine Ctr.of (Y := Y_X5_search) (L := [some (.ref (gh G + a0))]) (t := Option.bind (f_X5_search M a0) (fun q => some (q, (none : Option Value)))) (by decide) rfl rfl (nle rfl) (Lof_in 0 _ rfl) (fun X hG hl => ?_) (by rw [h]; rfl)
  subst hG
  subst hl
  unfold f_X5_search
  refine s_aload_n (pc := 0) 0 dX5_search_0 rfl rfl ?_
  refine s_iconst (pc := 1) 0 dX5_search_1 kc_0 ?_
  refine s_grd (fun o1 => ?_)
  refine s_puti (pc := 2) F_5 11 rfl o1 rfl rfl rfl dX5_search_2 kf_X5_48 (fun M2 hM3 => ?_)
  have h4 := le_wI hM3
  have o5 := h4.ok o1
  refine s_aload_n (pc := 5) 0 dX5_search_5 rfl rfl ?_
  refine s_bind (fun q6 hq7 => ?_)
  have hC8 := t_X5_workFewest (l := xl X) (G := xG X) hq7
  refine s_callV (pc := 6) (As := []) (st := []) (nlt rfl) (q := (RX5, TX5, 12)) rfl rfl o5 cl_X5_workFewest wi_X5_workFewest wl_X5_workFewest km_X5_51 rfl rfl (nle rfl) (nle rfl) (nle rfl) dX5_search_6 hC8 ?_
  have h9 := hC8.1 X
  have o10 := h9.ok o5
  show S0 X _ q6 9 [some (.ref (gh (xG X) + a0))] [] _
  refine s_aload_n (pc := 9) 0 dX5_search_9 rfl rfl ?_
  refine s_bind (fun q11 hq12 => ?_)
  have hC13 := t_X5_workFloor (l := xl X) (G := xG X) hq12
  refine s_callV (pc := 10) (As := []) (st := []) (nlt rfl) (q := (RX5, TX5, 12)) rfl rfl o10 cl_X5_workFloor wi_X5_workFloor wl_X5_workFloor km_X5_54 rfl rfl (nle rfl) (nle rfl) (nle rfl) dX5_search_10 hC13 ?_
  have h14 := hC13.1 X
  have o15 := h14.ok o10
  show S0 X _ q11 13 [some (.ref (gh (xG X) + a0))] [] _
  refine s_aload_n (pc := 13) 0 dX5_search_13 rfl rfl ?_
  refine s_aload_n (pc := 14) 0 dX5_search_14 rfl rfl ?_
  refine s_geto (pc := 15) F_5 4 rfl o15 dX5_search_15 kf_X5_24 ?_
  refine s_rvB (fun r16 => ?_)
  refine s_iconst (pc := 18) 1 dX5_search_18 kc_1 ?_
  refine s_aload_n (pc := 19) 0 dX5_search_19 rfl rfl ?_
  refine s_geti (pc := 20) F_5 7 rfl o15 dX5_search_20 kf_X5_40 ?_
  refine s_ishl (pc := 23) dX5_search_23 ?_
  refine s_iconst (pc := 24) 1 dX5_search_24 kc_1 ?_
  refine s_isub (pc := 25) dX5_search_25 ?_
  refine s_grd (fun o17 => ?_)
  refine s_grd (fun i18 => ?_)
  refine s_iald (pc := 26) o17 i18 dX5_search_26 ?_
  refine s_puti (pc := 27) F_5 10 rfl o15 rfl rfl rfl dX5_search_27 kf_X5_57 (fun M19 hM20 => ?_)
  have h21 := le_wI hM20
  have o22 := h21.ok o15
  refine s_aload_n (pc := 30) 0 dX5_search_30 rfl rfl ?_
  refine s_geti (pc := 31) F_5 10 rfl o22 dX5_search_31 kf_X5_57 ?_
  refine s_ldc (pc := 34) dX5_search_34 ki_X5_43 ?_
  refine s_icge (pc := 36) 46 dX5_search_36 rfl ?_ ?_
  · exact s_vret rfl dX5_search_46
  · refine s_aload_n (pc := 39) 0 dX5_search_39 rfl rfl ?_
    refine s_iconst (pc := 40) 0 dX5_search_40 kc_0 ?_
    refine s_iconst (pc := 41) (-1) dX5_search_41 kc_m1 ?_
    refine s_iconst (pc := 42) 0 dX5_search_42 kc_0 ?_
    refine s_bind (fun q23 hq24 => ?_)
    have hC25 := tf_X5_seek (l := xl X) (G := xG X) hq24
    refine s_callV (pc := 43) (As := [.int 0, .int (-1), .int 0]) (st := []) (nlt rfl) (q := (RX5, TX5, 12)) rfl rfl o22 cl_X5_seek wi_X5_seek wl_X5_seek km_X5_60 rfl rfl (nle rfl) (nle rfl) (nle rfl) dX5_search_43 hC25 ?_
    have h26 := hC25.1 X
    have o27 := h26.ok o22
    show S0 X _ q23 46 [some (.ref (gh (xG X) + a0))] [] _
    exact s_vret rfl dX5_search_46
noncomputable def f_X11_lines (M : Mem) (a0 : Nat) (x1 : Int32) (x2 : Int32) : Option (Mem × Int32) :=
  grd (okO M 11 a0) (Option.bind (mR M a0 0) (fun r2 => grd (okO M 10 r2) (Option.bind (f_X10_toldOf M r2 x1) (fun q4 => Option.bind (f_J6_bitCount_0f7a4 q4) (fun q7 => if q7 = 0 then (some (M, (-1))) else (if 6 < q7 then (some (M, (-1))) else (if x2 < 0 then (some (M, (-1))) else (if x2 ≤ (1 + q7) then (Option.bind (mR M a0 7) (fun r10 => Option.bind (mR M a0 0) (fun r11 => grd (okO M 10 r11) (grd (okO M 5 r10) (Option.bind (f_X5_isOf M r10 q4 (mI M r11 14)) (fun q14 => bv (fun (s18 : Mem) => Option.bind (mR s18 a0 7) (fun r22 => grd (okO s18 5 r22) (if (mI s18 r22 11) = 0 then (some (s18, (-1))) else (if 2 ≤ x2 then (Option.bind (mR s18 a0 7) (fun r24 => grd (okO s18 5 r24) (Option.bind (f_X5_bestMother s18 r24 (x2 - 2)) (fun q26 => some (s18, q26))))) else (if x2 = 0 then (Option.bind (mR s18 a0 7) (fun r31 => grd (okO s18 5 r31) (some (s18, mI s18 r31 10)))) else (Option.bind (mR s18 a0 7) (fun r29 => grd (okO s18 5 r29) (some (s18, mI s18 r29 11))))))))) (fun j17 => if q14 = 0 then (Option.bind (mR M a0 7) (fun r33 => Option.bind (mR M a0 0) (fun r34 => grd (okO M 10 r34) (grd (okO M 5 r33) (Option.bind (f_X5_take M r33 q4 (mI M r34 14)) (fun q37 => Option.bind (loopO (σ := Mem × Int32) (ρ := Mem) (fun s42 => if (q7 * q7) ≤ s42.2 then (some (.inr s42.1)) else (Option.bind (mR s42.1 a0 0) (fun r51 => grd (okO s42.1 10 r51) (Option.bind (mR s42.1 r51 5) (fun r53 => Option.bind (mR s42.1 a0 7) (fun r54 => grd (¬ q7 = 0) (grd (okO s42.1 5 r54) (Option.bind (f_X5_houseAt s42.1 r54 (ir s42.2 q7)) (fun q57 => grd (okO s42.1 14 r53) (grd (vp_in q57 (mL s42.1 r53)) (bv (mI s42.1 r53 q57.toNatClampNeg : Int32) (fun x62 => Option.bind (mR s42.1 a0 0) (fun r63 => grd (okO s42.1 10 r63) (Option.bind (mR s42.1 r63 5) (fun r65 => Option.bind (mR s42.1 a0 7) (fun r66 => grd (¬ q7 = 0) (grd (okO s42.1 5 r66) (Option.bind (f_X5_houseAt s42.1 r66 (s42.2 / q7)) (fun q69 => grd (okO s42.1 14 r65) (grd (vp_in q69 (mL s42.1 r65)) (bv (mI s42.1 r65 q69.toNatClampNeg : Int32) (fun x74 => Option.bind (mR s42.1 a0 7) (fun r75 => grd (¬ q7 = 0) (grd (¬ q7 = 0) (Option.bind (mR s42.1 a0 6) (fun r78 => Option.bind (mR s42.1 a0 0) (fun r79 => grd (okO s42.1 10 r79) (grd (okO s42.1 4 r78) (Option.bind (f_X4_stepsFrom s42.1 r78 x62 x74 (mI s42.1 r79 11)) (fun q82 => grd (okO q82.1 5 r75) (Option.bind (f_X5_setSteps q82.1 r75 (ir s42.2 q7) (s42.2 / q7) q82.2) (fun q88 => bv (s42.2 + 1 : Int32) (fun x93 => some (.inl (q88, x93))))))))))))))))))))))))))))))))))) (q37, 0)) (fun (x49 : Mem) => Option.bind (mR x49 a0 7) (fun r95 => grd (okO x49 5 r95) (Option.bind (f_X5_search x49 r95) (fun q97 => j17 q97)))))))))) else (j17 M)))))))) else (some (M, (-1)))))))))))
abbrev Y_X11_lines : Sta := (RX11, "lines", cX11_lines, 8, (some .int), 104)
set_option maxRecDepth 100000 in
set_option maxHeartbeats 8000000 in
theorem t_X11_lines {l : Launch} {G : Gh} {M : Mem} {a0 : Nat} {x1 : Int32} {x2 : Int32} {q : Mem × Int32} (h : f_X11_lines M a0 x1 x2 = some q) : Ctr l G yX11_lines Y_X11_lines M [.ref (gh G + a0), .int x1, .int x2] q.1 (some (.int q.2)) := by
  refine Ctr.of (Y := Y_X11_lines) (L := [some (.ref (gh G + a0)), some (.int x1), some (.int x2), none, none, none, none, none]) (t := Option.bind (f_X11_lines M a0 x1 x2) (fun q => some (q.1, some (.int q.2)))) (by decide) rfl rfl (nle rfl) (Lof_in 5 _ rfl) (fun X hG hl => ?_) (by rw [h]; rfl)
  subst hG
  subst hl
  unfold f_X11_lines
  refine s_aload_n (pc := 0) 0 dX11_lines_0 rfl rfl ?_
  refine s_grd (fun o1 => ?_)
  refine s_geto (pc := 1) F_11 0 rfl o1 dX11_lines_1 kf_X11_10 ?_
  refine s_rvB (fun r2 => ?_)
  refine s_iload_n (pc := 4) 1 dX11_lines_4 rfl rfl ?_
  refine s_grd (fun o3 => ?_)
  refine s_bind (fun q4 hq5 => ?_)
  have hC6 := t_X10_toldOf (l := xl X) (G := xG X) hq5
  refine s_callV (pc := 5) (As := [.int x1]) (st := []) (nlt rfl) (q := (RX10, TX10, 15)) rfl rfl o3 cl_X10_toldOf wi_X10_toldOf wl_X10_toldOf km_X11_276 rfl rfl (nle rfl) (nle rfl) (nle rfl) dX11_lines_5 hC6 ?_
  show S0 X _ M 8 [some (.ref (gh (xG X) + a0)), some (.int x1), some (.int x2), none, none, none, none, none] [.int q4] _
  refine s_istore_n (pc := 8) 3 dX11_lines_8 rfl (nlt rfl) rfl (L' := [some (.ref (gh (xG X) + a0)), some (.int x1), some (.int x2), some (.int q4), none, none, none, none]) rfl ?_
  refine s_iload_n (pc := 9) 3 dX11_lines_9 rfl rfl ?_
  refine s_bind (fun q7 hq8 => ?_)
  have hC9 := t_J6_bitCount_0f7a4 (l := xl X) (G := xG X) (M := M) hq8
  refine s_callS (pc := 10) (As := [.int q4]) (st := []) cl_J6_bitCount_0f7a4 wt_J6_bitCount_0f7a4 km_X11_291 rfl rfl (nle rfl) (nle rfl) (nle rfl) dX11_lines_10 hC9 ?_
  show S0 X _ M 13 [some (.ref (gh (xG X) + a0)), some (.int x1), some (.int x2), some (.int q4), none, none, none, none] [.int q7] _
  refine s_istore (pc := 13) dX11_lines_13 (nlt rfl) rfl (L' := [some (.ref (gh (xG X) + a0)), some (.int x1), some (.int x2), some (.int q4), some (.int q7), none, none, none]) rfl ?_
  refine s_iload (pc := 15) dX11_lines_15 rfl ?_
  refine s_ifeq (pc := 17) 39 dX11_lines_17 rfl ?_ ?_
  · refine s_iconst (pc := 39) (-1) dX11_lines_39 kc_m1 ?_
    exact s_iret rfl dX11_lines_40
  · refine s_iload (pc := 20) dX11_lines_20 rfl ?_
    refine s_bipush (pc := 22) 6 dX11_lines_22 kb_6 ?_
    refine s_icgt (pc := 24) 39 dX11_lines_24 rfl ?_ ?_
    · refine s_iconst (pc := 39) (-1) dX11_lines_39 kc_m1 ?_
      exact s_iret rfl dX11_lines_40
    · refine s_iload_n (pc := 27) 2 dX11_lines_27 rfl rfl ?_
      refine s_iflt (pc := 28) 39 dX11_lines_28 rfl ?_ ?_
      · refine s_iconst (pc := 39) (-1) dX11_lines_39 kc_m1 ?_
        exact s_iret rfl dX11_lines_40
      · refine s_iload_n (pc := 31) 2 dX11_lines_31 rfl rfl ?_
        refine s_iconst (pc := 32) 1 dX11_lines_32 kc_1 ?_
        refine s_iload (pc := 33) dX11_lines_33 rfl ?_
        refine s_iadd (pc := 35) dX11_lines_35 ?_
        refine s_icle (pc := 36) 41 dX11_lines_36 rfl ?_ ?_
        · refine s_aload_n (pc := 41) 0 dX11_lines_41 rfl rfl ?_
          refine s_geto (pc := 42) F_11 7 rfl o1 dX11_lines_42 kf_X11_62 ?_
          refine s_rvB (fun r10 => ?_)
          refine s_iload_n (pc := 45) 3 dX11_lines_45 rfl rfl ?_
          refine s_aload_n (pc := 46) 0 dX11_lines_46 rfl rfl ?_
          refine s_geto (pc := 47) F_11 0 rfl o1 dX11_lines_47 kf_X11_10 ?_
          refine s_rvB (fun r11 => ?_)
          refine s_grd (fun o12 => ?_)
          refine s_getiN (pc := 50) F_10 14 rfl o12 dX11_lines_50 (List.mem_of_getElem? (i := 21) rfl) ?_
          refine s_grd (fun o13 => ?_)
          refine s_bind (fun q14 hq15 => ?_)
          have hC16 := t_X5_isOf (l := xl X) (G := xG X) hq15
          refine s_callV (pc := 53) (As := [.int q4, .int (mI M r11 14)]) (st := []) (nlt rfl) (q := (RX5, TX5, 12)) rfl rfl o13 cl_X5_isOf wi_X5_isOf wl_X5_isOf km_X11_299 rfl rfl (nle rfl) (nle rfl) (nle rfl) dX11_lines_53 hC16 ?_
          show S0 X _ M 56 [some (.ref (gh (xG X) + a0)), some (.int x1), some (.int x2), some (.int q4), some (.int q7), none, none, none] [.int q14] _
          refine s_join M (fun s18 : Mem => s18) 179 (fun s18 : Mem => [some (.ref (gh (xG X) + a0)), none, some (.int x2), none, none, none, none, none]) (fun s18 : Mem => []) (fun s18 hs19 => ?_) (fun j17 hj20 => ?_)
          · show S0 X _ s18 179 [some (.ref (gh (xG X) + a0)), none, some (.int x2), none, none, none, none, none] [] _
            have o21 := hs19.ok o1
            refine s_aload_n (pc := 179) 0 dX11_lines_179 rfl rfl ?_
            refine s_geto (pc := 180) F_11 7 rfl o21 dX11_lines_180 kf_X11_62 ?_
            refine s_rvB (fun r22 => ?_)
            refine s_grd (fun o23 => ?_)
            refine s_geti (pc := 183) F_5 11 rfl o23 dX11_lines_183 kf_X11_314 ?_
            refine s_ifne (pc := 186) 191 dX11_lines_186 rfl ?_ ?_
            · refine s_iload_n (pc := 191) 2 dX11_lines_191 rfl rfl ?_
              refine s_iconst (pc := 192) 2 dX11_lines_192 kc_2 ?_
              refine s_icge (pc := 193) 218 dX11_lines_193 rfl ?_ ?_
              · refine s_aload_n (pc := 218) 0 dX11_lines_218 rfl rfl ?_
                refine s_geto (pc := 219) F_11 7 rfl o21 dX11_lines_219 kf_X11_62 ?_
                refine s_rvB (fun r24 => ?_)
                refine s_iload_n (pc := 222) 2 dX11_lines_222 rfl rfl ?_
                refine s_iconst (pc := 223) 2 dX11_lines_223 kc_2 ?_
                refine s_isub (pc := 224) dX11_lines_224 ?_
                refine s_grd (fun o25 => ?_)
                refine s_bind (fun q26 hq27 => ?_)
                have hC28 := t_X5_bestMother (l := xl X) (G := xG X) hq27
                refine s_callV (pc := 225) (As := [.int (x2 - 2)]) (st := []) (nlt rfl) (q := (RX5, TX5, 12)) rfl rfl o25 cl_X5_bestMother wi_X5_bestMother wl_X5_bestMother km_X11_318 rfl rfl (nle rfl) (nle rfl) (nle rfl) dX11_lines_225 hC28 ?_
                show S0 X _ s18 228 [some (.ref (gh (xG X) + a0)), none, some (.int x2), none, none, none, none, none] [.int q26] _
                exact s_iret rfl dX11_lines_228
              · refine s_iload_n (pc := 196) 2 dX11_lines_196 rfl rfl ?_
                refine s_ifne (pc := 197) 210 dX11_lines_197 rfl ?_ ?_
                · refine s_aload_n (pc := 210) 0 dX11_lines_210 rfl rfl ?_
                  refine s_geto (pc := 211) F_11 7 rfl o21 dX11_lines_211 kf_X11_62 ?_
                  refine s_rvB (fun r29 => ?_)
                  refine s_grd (fun o30 => ?_)
                  refine s_geti (pc := 214) F_5 11 rfl o30 dX11_lines_214 kf_X11_314 ?_
                  exact s_iret rfl dX11_lines_217
                · refine s_aload_n (pc := 200) 0 dX11_lines_200 rfl rfl ?_
                  refine s_geto (pc := 201) F_11 7 rfl o21 dX11_lines_201 kf_X11_62 ?_
                  refine s_rvB (fun r31 => ?_)
                  refine s_grd (fun o32 => ?_)
                  refine s_geti (pc := 204) F_5 10 rfl o32 dX11_lines_204 kf_X11_317 ?_
                  refine s_goto (pc := 207) 217 dX11_lines_207 rfl ?_
                  exact s_iret rfl dX11_lines_217
            · refine s_iconst (pc := 189) (-1) dX11_lines_189 kc_m1 ?_
              exact s_iret rfl dX11_lines_190
          · refine s_ifne (pc := 56) 179 dX11_lines_56 rfl ?_ ?_
            · exact s_drop (hj20 M Le.rf) (And.intro rfl (And.intro rfl trivial))
            · refine s_aload_n (pc := 59) 0 dX11_lines_59 rfl rfl ?_
              refine s_geto (pc := 60) F_11 7 rfl o1 dX11_lines_60 kf_X11_62 ?_
              refine s_rvB (fun r33 => ?_)
              refine s_iload_n (pc := 63) 3 dX11_lines_63 rfl rfl ?_
              refine s_aload_n (pc := 64) 0 dX11_lines_64 rfl rfl ?_
              refine s_geto (pc := 65) F_11 0 rfl o1 dX11_lines_65 kf_X11_10 ?_
              refine s_rvB (fun r34 => ?_)
              refine s_grd (fun o35 => ?_)
              refine s_getiN (pc := 68) F_10 14 rfl o35 dX11_lines_68 (List.mem_of_getElem? (i := 21) rfl) ?_
              refine s_grd (fun o36 => ?_)
              refine s_bind (fun q37 hq38 => ?_)
              have hC39 := t_X5_take (l := xl X) (G := xG X) hq38
              refine s_callV (pc := 71) (As := [.int q4, .int (mI M r34 14)]) (st := []) (nlt rfl) (q := (RX5, TX5, 12)) rfl rfl o36 cl_X5_take wi_X5_take wl_X5_take km_X11_302 rfl rfl (nle rfl) (nle rfl) (nle rfl) dX11_lines_71 hC39 ?_
              have h40 := hC39.1 X
              have o41 := h40.ok o1
              show S0 X _ q37 74 [some (.ref (gh (xG X) + a0)), some (.int x1), some (.int x2), some (.int q4), some (.int q7), none, none, none] [] _
              refine s_iconst (pc := 74) 0 dX11_lines_74 kc_0 ?_
              refine s_istore (pc := 75) dX11_lines_75 (nlt rfl) rfl (L' := [some (.ref (gh (xG X) + a0)), some (.int x1), some (.int x2), some (.int q4), some (.int q7), some (.int 0), none, none]) rfl ?_
              refine s_drop (L' := [some (.ref (gh (xG X) + a0)), none, some (.int x2), none, some (.int q7), some (.int 0), none, none]) ?_ (And.intro rfl (And.intro rfl (And.intro rfl (And.intro rfl trivial))))
              refine s_loop1 q37 (fun s42 : Mem × Int32 => s42.1) (fun s42 : Mem × Int32 => [some (.ref (gh (xG X) + a0)), none, some (.int x2), none, some (.int q7), some (.int s42.2), none, none]) (fun x49 : Mem => x49) 172 (fun x49 : Mem => [some (.ref (gh (xG X) + a0)), none, some (.int x2), none, none, none, none, none]) (fun x49 hx50 => ?_) (fun T44 R46 hT45 hR47 s42 hs43 => ?_) (q37, 0) Le.rf
              · show S0 X _ x49 172 [some (.ref (gh (xG X) + a0)), none, some (.int x2), none, none, none, none, none] [] _
                have o94 := hx50.ok o41
                refine s_aload_n (pc := 172) 0 dX11_lines_172 rfl rfl ?_
                refine s_geto (pc := 173) F_11 7 rfl o94 dX11_lines_173 kf_X11_62 ?_
                refine s_rvB (fun r95 => ?_)
                refine s_grd (fun o96 => ?_)
                refine s_bind (fun q97 hq98 => ?_)
                have hC99 := t_X5_search (l := xl X) (G := xG X) hq98
                refine s_callV (pc := 176) (As := []) (st := []) (nlt rfl) (q := (RX5, TX5, 12)) rfl rfl o96 cl_X5_search wi_X5_search wl_X5_search km_X11_311 rfl rfl (nle rfl) (nle rfl) (nle rfl) dX11_lines_176 hC99 ?_
                have h100 := hC99.1 X
                have o101 := h100.ok o94
                show S0 X _ q97 179 [some (.ref (gh (xG X) + a0)), none, some (.int x2), none, none, none, none, none] [] _
                exact s_drop (hj20 q97 (h40.tr (hx50.tr h100))) (And.intro rfl (And.intro rfl trivial))
              · show S0 X _ s42.1 77 [some (.ref (gh (xG X) + a0)), none, some (.int x2), none, some (.int q7), some (.int s42.2), none, none] [] _
                have o48 := hs43.ok o41
                refine s_iload (pc := 77) dX11_lines_77 rfl ?_
                refine s_iload (pc := 79) dX11_lines_79 rfl ?_
                refine s_iload (pc := 81) dX11_lines_81 rfl ?_
                refine s_imul (pc := 83) dX11_lines_83 ?_
                refine s_icge (pc := 84) 172 dX11_lines_84 rfl ?_ ?_
                · exact s_drop (hR47 s42.1 hs43) (And.intro rfl (And.intro rfl trivial))
                · refine s_aload_n (pc := 87) 0 dX11_lines_87 rfl rfl ?_
                  refine s_geto (pc := 88) F_11 0 rfl o48 dX11_lines_88 kf_X11_10 ?_
                  refine s_rvB (fun r51 => ?_)
                  refine s_grd (fun o52 => ?_)
                  refine s_getoN (pc := 91) F_10 5 rfl o52 dX11_lines_91 (List.mem_of_getElem? (i := 7) rfl) ?_
                  refine s_rvB (fun r53 => ?_)
                  refine s_aload_n (pc := 94) 0 dX11_lines_94 rfl rfl ?_
                  refine s_geto (pc := 95) F_11 7 rfl o48 dX11_lines_95 kf_X11_62 ?_
                  refine s_rvB (fun r54 => ?_)
                  refine s_iload (pc := 98) dX11_lines_98 rfl ?_
                  refine s_iload (pc := 100) dX11_lines_100 rfl ?_
                  refine s_grd (fun g55 => ?_)
                  refine s_irem (pc := 102) dX11_lines_102 g55 ?_
                  refine s_grd (fun o56 => ?_)
                  refine s_bind (fun q57 hq58 => ?_)
                  have hC59 := t_X5_houseAt (l := xl X) (G := xG X) hq58
                  refine s_callV (pc := 103) (As := [.int (ir s42.2 q7)]) (st := [.ref (gh (xG X) + r53)]) (nlt rfl) (q := (RX5, TX5, 12)) rfl rfl o56 cl_X5_houseAt wi_X5_houseAt wl_X5_houseAt km_X11_304 rfl rfl (nle rfl) (nle rfl) (nle rfl) dX11_lines_103 hC59 ?_
                  show S0 X _ s42.1 106 [some (.ref (gh (xG X) + a0)), none, some (.int x2), none, some (.int q7), some (.int s42.2), none, none] [.int q57, .ref (gh (xG X) + r53)] _
                  refine s_grd (fun o60 => ?_)
                  refine s_grd (fun i61 => ?_)
                  refine s_iald (pc := 106) o60 i61 dX11_lines_106 ?_
                  refine s_istore (pc := 107) dX11_lines_107 (nlt rfl) rfl (L' := [some (.ref (gh (xG X) + a0)), none, some (.int x2), none, some (.int q7), some (.int s42.2), some (.int (mI s42.1 r53 q57.toNatClampNeg)), none]) rfl ?_
                  refine s_bv (fun x62 : Int32 => [some (.ref (gh (xG X) + a0)), none, some (.int x2), none, some (.int q7), some (.int s42.2), some (.int x62), none]) (fun x62 => ?_) rfl
                  refine s_aload_n (pc := 109) 0 dX11_lines_109 rfl rfl ?_
                  refine s_geto (pc := 110) F_11 0 rfl o48 dX11_lines_110 kf_X11_10 ?_
                  refine s_rvB (fun r63 => ?_)
                  refine s_grd (fun o64 => ?_)
                  refine s_getoN (pc := 113) F_10 5 rfl o64 dX11_lines_113 (List.mem_of_getElem? (i := 7) rfl) ?_
                  refine s_rvB (fun r65 => ?_)
                  refine s_aload_n (pc := 116) 0 dX11_lines_116 rfl rfl ?_
                  refine s_geto (pc := 117) F_11 7 rfl o48 dX11_lines_117 kf_X11_62 ?_
                  refine s_rvB (fun r66 => ?_)
                  refine s_iload (pc := 120) dX11_lines_120 rfl ?_
                  refine s_iload (pc := 122) dX11_lines_122 rfl ?_
                  refine s_grd (fun g67 => ?_)
                  refine s_idiv (pc := 124) dX11_lines_124 g67 ?_
                  refine s_grd (fun o68 => ?_)
                  refine s_bind (fun q69 hq70 => ?_)
                  have hC71 := t_X5_houseAt (l := xl X) (G := xG X) hq70
                  refine s_callV (pc := 125) (As := [.int (s42.2 / q7)]) (st := [.ref (gh (xG X) + r65)]) (nlt rfl) (q := (RX5, TX5, 12)) rfl rfl o68 cl_X5_houseAt wi_X5_houseAt wl_X5_houseAt km_X11_304 rfl rfl (nle rfl) (nle rfl) (nle rfl) dX11_lines_125 hC71 ?_
                  show S0 X _ s42.1 128 [some (.ref (gh (xG X) + a0)), none, some (.int x2), none, some (.int q7), some (.int s42.2), some (.int x62), none] [.int q69, .ref (gh (xG X) + r65)] _
                  refine s_grd (fun o72 => ?_)
                  refine s_grd (fun i73 => ?_)
                  refine s_iald (pc := 128) o72 i73 dX11_lines_128 ?_
                  refine s_istore (pc := 129) dX11_lines_129 (nlt rfl) rfl (L' := [some (.ref (gh (xG X) + a0)), none, some (.int x2), none, some (.int q7), some (.int s42.2), some (.int x62), some (.int (mI s42.1 r65 q69.toNatClampNeg))]) rfl ?_
                  refine s_bv (fun x74 : Int32 => [some (.ref (gh (xG X) + a0)), none, some (.int x2), none, some (.int q7), some (.int s42.2), some (.int x62), some (.int x74)]) (fun x74 => ?_) rfl
                  refine s_aload_n (pc := 131) 0 dX11_lines_131 rfl rfl ?_
                  refine s_geto (pc := 132) F_11 7 rfl o48 dX11_lines_132 kf_X11_62 ?_
                  refine s_rvB (fun r75 => ?_)
                  refine s_iload (pc := 135) dX11_lines_135 rfl ?_
                  refine s_iload (pc := 137) dX11_lines_137 rfl ?_
                  refine s_grd (fun g76 => ?_)
                  refine s_irem (pc := 139) dX11_lines_139 g76 ?_
                  refine s_iload (pc := 140) dX11_lines_140 rfl ?_
                  refine s_iload (pc := 142) dX11_lines_142 rfl ?_
                  refine s_grd (fun g77 => ?_)
                  refine s_idiv (pc := 144) dX11_lines_144 g77 ?_
                  refine s_aload_n (pc := 145) 0 dX11_lines_145 rfl rfl ?_
                  refine s_geto (pc := 146) F_11 6 rfl o48 dX11_lines_146 kf_X11_55 ?_
                  refine s_rvB (fun r78 => ?_)
                  refine s_iload (pc := 149) dX11_lines_149 rfl ?_
                  refine s_iload (pc := 151) dX11_lines_151 rfl ?_
                  refine s_aload_n (pc := 153) 0 dX11_lines_153 rfl rfl ?_
                  refine s_geto (pc := 154) F_11 0 rfl o48 dX11_lines_154 kf_X11_10 ?_
                  refine s_rvB (fun r79 => ?_)
                  refine s_grd (fun o80 => ?_)
                  refine s_getiN (pc := 157) F_10 11 rfl o80 dX11_lines_157 (List.mem_of_getElem? (i := 14) rfl) ?_
                  refine s_grd (fun o81 => ?_)
                  refine s_bind (fun q82 hq83 => ?_)
                  have hC84 := t_X4_stepsFrom (l := xl X) (G := xG X) hq83
                  refine s_callV (pc := 160) (As := [.int x62, .int x74, .int (mI s42.1 r79 11)]) (st := [.int (s42.2 / q7), .int (ir s42.2 q7), .ref (gh (xG X) + r75)]) (nlt rfl) (q := (RX4, TX4, 10)) rfl rfl o81 cl_X4_stepsFrom wi_X4_stepsFrom wl_X4_stepsFrom km_X11_155 rfl rfl (nle rfl) (nle rfl) (nle rfl) dX11_lines_160 hC84 ?_
                  have h85 := hC84.1 X
                  have o86 := h85.ok o48
                  show S0 X _ q82.1 163 [some (.ref (gh (xG X) + a0)), none, some (.int x2), none, some (.int q7), some (.int s42.2), some (.int x62), some (.int x74)] [.int q82.2, .int (s42.2 / q7), .int (ir s42.2 q7), .ref (gh (xG X) + r75)] _
                  refine s_grd (fun o87 => ?_)
                  refine s_bind (fun q88 hq89 => ?_)
                  have hC90 := t_X5_setSteps (l := xl X) (G := xG X) hq89
                  refine s_callV (pc := 163) (As := [.int (ir s42.2 q7), .int (s42.2 / q7), .int q82.2]) (st := []) (nlt rfl) (q := (RX5, TX5, 12)) rfl rfl o87 cl_X5_setSteps wi_X5_setSteps wl_X5_setSteps km_X11_307 rfl rfl (nle rfl) (nle rfl) (nle rfl) dX11_lines_163 hC90 ?_
                  have h91 := hC90.1 X
                  have o92 := h91.ok o86
                  show S0 X _ q88 166 [some (.ref (gh (xG X) + a0)), none, some (.int x2), none, some (.int q7), some (.int s42.2), some (.int x62), some (.int x74)] [] _
                  refine s_iinc (pc := 166) dX11_lines_166 rfl (v := s42.2 + 1) (congrArg (fun z : Int32 => s42.2 + z) kc_1) (nlt rfl) rfl (L' := [some (.ref (gh (xG X) + a0)), none, some (.int x2), none, some (.int q7), some (.int (s42.2 + 1)), some (.int x62), some (.int x74)]) rfl ?_
                  refine s_bv (fun x93 : Int32 => [some (.ref (gh (xG X) + a0)), none, some (.int x2), none, some (.int q7), some (.int x93), some (.int x62), some (.int x74)]) (fun x93 => ?_) rfl
                  refine s_goto (pc := 169) 77 dX11_lines_169 rfl ?_
                  exact s_drop (hT45 (q88, x93) (hs43.tr (h85.tr h91))) (And.intro rfl (And.intro rfl (And.intro rfl (And.intro rfl trivial))))
        · refine s_iconst (pc := 39) (-1) dX11_lines_39 kc_m1 ?_
          exact s_iret rfl dX11_lines_40
noncomputable def f_X12_nextSum (M : Mem) (a0 : Nat) (x1 : Int32) (x2 : Int32) : Option Mem :=
  grd (okO M 12 a0) (bv (wI M a0 28 0) (fun M2 => Option.bind (mR M2 a0 55) (fun r6 => Option.bind (f_X12_sumOf 100 M2 a0 x2) (fun q7 => grd (okO q7.1 15 r6) (grd (vp_in x1 (mL q7.1 r6)) (bv (wJ q7.1 r6 x1.toNatClampNeg q7.2) (fun M14 => bv (fun (s19 : Int32) => grd (bl s19) (bv (wI M14 a0 53 s19) (fun M22 => some M22))) (fun j18 => bv (fun (s27 : Unit) => j18 0) (fun j26 => if (mI M14 a0 53) = 0 then (j26 ()) else (if (mI M14 a0 28) = 0 then (j18 1) else (j26 ())))))))))))
abbrev Y_X12_nextSum : Sta := (RX12, "nextSum", cX12_nextSum, 3, none, 104)
set_option maxRecDepth 100000 in
set_option maxHeartbeats 8000000 in
theorem t_X12_nextSum {l : Launch} {G : Gh} {M : Mem} {a0 : Nat} {x1 : Int32} {x2 : Int32} {q : Mem} (h : f_X12_nextSum M a0 x1 x2 = some q) : Ctr l G yX12_nextSum Y_X12_nextSum M [.ref (gh G + a0), .int x1, .int x2] q (none) := by
  refine Ctr.of (Y := Y_X12_nextSum) (L := [some (.ref (gh G + a0)), some (.int x1), some (.int x2)]) (t := Option.bind (f_X12_nextSum M a0 x1 x2) (fun q => some (q, (none : Option Value)))) (by decide) rfl rfl (nle rfl) (Lof_in 0 _ rfl) (fun X hG hl => ?_) (by rw [h]; rfl)
  subst hG
  subst hl
  unfold f_X12_nextSum
  refine s_aload_n (pc := 0) 0 dX12_nextSum_0 rfl rfl ?_
  refine s_iconst (pc := 1) 0 dX12_nextSum_1 kc_0 ?_
  refine s_grd (fun o1 => ?_)
  refine s_puti (pc := 2) F_12 28 rfl o1 rfl rfl rfl dX12_nextSum_2 kf_X12_319 (fun M2 hM3 => ?_)
  have h4 := le_wI hM3
  have o5 := h4.ok o1
  refine s_aload_n (pc := 5) 0 dX12_nextSum_5 rfl rfl ?_
  refine s_geto (pc := 6) F_12 55 rfl o5 dX12_nextSum_6 kf_X12_114 ?_
  refine s_rvB (fun r6 => ?_)
  refine s_iload_n (pc := 9) 1 dX12_nextSum_9 rfl rfl ?_
  refine s_aload_n (pc := 10) 0 dX12_nextSum_10 rfl rfl ?_
  refine s_iload_n (pc := 11) 2 dX12_nextSum_11 rfl rfl ?_
  refine s_bind (fun q7 hq8 => ?_)
  have hC9 := tf_X12_sumOf (l := xl X) (G := xG X) hq8
  refine s_callV (pc := 12) (As := [.int x2]) (st := [.int x1, .ref (gh (xG X) + r6)]) (nlt rfl) (q := (RX12, TX12, 59)) rfl rfl o5 cl_X12_sumOf wi_X12_sumOf wl_X12_sumOf km_X12_336 rfl rfl (nle rfl) (nle rfl) (nle rfl) dX12_nextSum_12 hC9 ?_
  have h10 := hC9.1 X
  have o11 := h10.ok o5
  show S0 X _ q7.1 15 [some (.ref (gh (xG X) + a0)), some (.int x1), some (.int x2)] [.long q7.2, .int x1, .ref (gh (xG X) + r6)] _
  refine s_grd (fun o12 => ?_)
  refine s_grd (fun i13 => ?_)
  refine s_last (pc := 15) o12 i13 dX12_nextSum_15 (fun M14 hM15 => ?_)
  have h16 := le_wJ hM15
  have o17 := h16.ok o11
  refine s_aload_n (pc := 16) 0 dX12_nextSum_16 rfl rfl ?_
  refine s_aload_n (pc := 17) 0 dX12_nextSum_17 rfl rfl ?_
  refine s_geti (pc := 18) F_12 53 rfl o17 dX12_nextSum_18 kf_X12_431 ?_
  refine s_join M14 (fun s19 : Int32 => M14) 36 (fun s19 : Int32 => [none, none, none]) (fun s19 : Int32 => [.int s19, .ref (gh (xG X) + a0)]) (fun s19 hs20 => ?_) (fun j18 hj21 => ?_)
  · show S0 X _ M14 36 [none, none, none] [.int s19, .ref (gh (xG X) + a0)] _
    refine s_grd (fun g25 => ?_)
    refine s_puti (pc := 36) F_12 53 rfl o17 rfl g25 rfl dX12_nextSum_36 kf_X12_431 (fun M22 hM23 => ?_)
    have h24 := le_wI hM23
    exact s_vret rfl dX12_nextSum_39
  · refine s_join M14 (fun s27 : Unit => M14) 35 (fun s27 : Unit => [none, none, none]) (fun s27 : Unit => [.ref (gh (xG X) + a0)]) (fun s27 hs28 => ?_) (fun j26 hj29 => ?_)
    · show S0 X _ M14 35 [none, none, none] [.ref (gh (xG X) + a0)] _
      refine s_iconst (pc := 35) 0 dX12_nextSum_35 kc_0 ?_
      exact s_drop (hj21 0 Le.rf) trivial
    · refine s_ifeq (pc := 21) 35 dX12_nextSum_21 rfl ?_ ?_
      · exact s_drop (hj29 () Le.rf) trivial
      · refine s_aload_n (pc := 24) 0 dX12_nextSum_24 rfl rfl ?_
        refine s_geti (pc := 25) F_12 28 rfl o17 dX12_nextSum_25 kf_X12_319 ?_
        refine s_ifne (pc := 28) 35 dX12_nextSum_28 rfl ?_ ?_
        · exact s_drop (hj29 () Le.rf) trivial
        · refine s_iconst (pc := 31) 1 dX12_nextSum_31 kc_1 ?_
          refine s_goto (pc := 32) 36 dX12_nextSum_32 rfl ?_
          exact s_drop (hj21 1 Le.rf) trivial
noncomputable def f_X7_comparison (M : Mem) (a0 : Nat) (x1 : Int32) : Option (Mem × Int32) :=
  grd (okO M 7 a0) (Option.bind (f_X7_sum 100 M a0 x1) (fun q2 => if q2.2 = 0 then (some (q2.1, 0)) else (Option.bind (f_X7_opOf q2.1 a0 8 10) (fun q7 => if q7 = (-1) then (Option.bind (f_X7_fail q2.1 a0) (fun q27 => grd (bl q27.2) (some (q27.1, q27.2)))) else (Option.bind (f_X7_next q2.1 a0) (fun q10 => Option.bind (f_X7_sum 100 q10 a0 x1) (fun q15 => if q15.2 = 0 then (some (q15.1, 0)) else (Option.bind (mR q15.1 a0 3) (fun r20 => grd (okO q15.1 9 r20) (Option.bind (f_X9_emit q15.1 r20 q7 0) (fun q22 => some (q22.1, 1))))))))))))
abbrev Y_X7_comparison : Sta := (RX7, "comparison", cX7_comparison, 3, (some .boolean), 104)
set_option maxRecDepth 100000 in
set_option maxHeartbeats 8000000 in
theorem t_X7_comparison {l : Launch} {G : Gh} {M : Mem} {a0 : Nat} {x1 : Int32} {q : Mem × Int32} (h : f_X7_comparison M a0 x1 = some q) : Ctr l G yX7_comparison Y_X7_comparison M [.ref (gh G + a0), .int x1] q.1 (some (.int q.2)) := by
  refine Ctr.of (Y := Y_X7_comparison) (L := [some (.ref (gh G + a0)), some (.int x1), none]) (t := Option.bind (f_X7_comparison M a0 x1) (fun q => some (q.1, some (.int q.2)))) (by decide) rfl rfl (nle rfl) (Lof_in 1 _ rfl) (fun X hG hl => ?_) (by rw [h]; rfl)
  subst hG
  subst hl
  unfold f_X7_comparison
  refine s_aload_n (pc := 0) 0 dX7_comparison_0 rfl rfl ?_
  refine s_iload_n (pc := 1) 1 dX7_comparison_1 rfl rfl ?_
  refine s_grd (fun o1 => ?_)
  refine s_bind (fun q2 hq3 => ?_)
  have hC4 := tf_X7_sum (l := xl X) (G := xG X) hq3
  refine s_callV (pc := 2) (As := [.int x1]) (st := []) (nlt rfl) (q := (RX7, TX7, 10)) rfl rfl o1 cl_X7_sum wi_X7_sum wl_X7_sum km_X7_137 rfl rfl (nle rfl) (nle rfl) (nle rfl) dX7_comparison_2 hC4 ?_
  have h5 := hC4.1 X
  have o6 := h5.ok o1
  show S0 X _ q2.1 5 [some (.ref (gh (xG X) + a0)), some (.int x1), none] [.int q2.2] _
  refine s_ifne (pc := 5) 10 dX7_comparison_5 rfl ?_ ?_
  · refine s_aload_n (pc := 10) 0 dX7_comparison_10 rfl rfl ?_
    refine s_bipush (pc := 11) 8 dX7_comparison_11 kb_8 ?_
    refine s_bipush (pc := 13) 10 dX7_comparison_13 kb_10 ?_
    refine s_bind (fun q7 hq8 => ?_)
    have hC9 := t_X7_opOf (l := xl X) (G := xG X) hq8
    refine s_callV (pc := 15) (As := [.int 8, .int 10]) (st := []) (nlt rfl) (q := (RX7, TX7, 10)) rfl rfl o6 cl_X7_opOf wi_X7_opOf wl_X7_opOf km_X7_155 rfl rfl (nle rfl) (nle rfl) (nle rfl) dX7_comparison_15 hC9 ?_
    show S0 X _ q2.1 18 [some (.ref (gh (xG X) + a0)), some (.int x1), none] [.int q7] _
    refine s_istore_n (pc := 18) 2 dX7_comparison_18 rfl (nlt rfl) rfl (L' := [some (.ref (gh (xG X) + a0)), some (.int x1), some (.int q7)]) rfl ?_
    refine s_iload_n (pc := 19) 2 dX7_comparison_19 rfl rfl ?_
    refine s_iconst (pc := 20) (-1) dX7_comparison_20 kc_m1 ?_
    refine s_icne (pc := 21) 29 dX7_comparison_21 rfl ?_ ?_
    · refine s_aload_n (pc := 29) 0 dX7_comparison_29 rfl rfl ?_
      refine s_bind (fun q10 hq11 => ?_)
      have hC12 := t_X7_next (l := xl X) (G := xG X) hq11
      refine s_callV (pc := 30) (As := []) (st := []) (nlt rfl) (q := (RX7, TX7, 10)) rfl rfl o6 cl_X7_next wi_X7_next wl_X7_next km_X7_79 rfl rfl (nle rfl) (nle rfl) (nle rfl) dX7_comparison_30 hC12 ?_
      have h13 := hC12.1 X
      have o14 := h13.ok o6
      show S0 X _ q10 33 [some (.ref (gh (xG X) + a0)), some (.int x1), some (.int q7)] [] _
      refine s_aload_n (pc := 33) 0 dX7_comparison_33 rfl rfl ?_
      refine s_iload_n (pc := 34) 1 dX7_comparison_34 rfl rfl ?_
      refine s_bind (fun q15 hq16 => ?_)
      have hC17 := tf_X7_sum (l := xl X) (G := xG X) hq16
      refine s_callV (pc := 35) (As := [.int x1]) (st := []) (nlt rfl) (q := (RX7, TX7, 10)) rfl rfl o14 cl_X7_sum wi_X7_sum wl_X7_sum km_X7_137 rfl rfl (nle rfl) (nle rfl) (nle rfl) dX7_comparison_35 hC17 ?_
      have h18 := hC17.1 X
      have o19 := h18.ok o14
      show S0 X _ q15.1 38 [some (.ref (gh (xG X) + a0)), some (.int x1), some (.int q7)] [.int q15.2] _
      refine s_ifne (pc := 38) 43 dX7_comparison_38 rfl ?_ ?_
      · refine s_aload_n (pc := 43) 0 dX7_comparison_43 rfl rfl ?_
        refine s_geto (pc := 44) F_7 3 rfl o19 dX7_comparison_44 kf_X7_26 ?_
        refine s_rvB (fun r20 => ?_)
        refine s_iload_n (pc := 47) 2 dX7_comparison_47 rfl rfl ?_
        refine s_iconst (pc := 48) 0 dX7_comparison_48 kc_0 ?_
        refine s_grd (fun o21 => ?_)
        refine s_bind (fun q22 hq23 => ?_)
        have hC24 := t_X9_emit (l := xl X) (G := xG X) hq23
        refine s_callV (pc := 49) (As := [.int q7, .int 0]) (st := []) (nlt rfl) (q := (RX9, TX9, 5)) rfl rfl o21 cl_X9_emit wi_X9_emit wl_X9_emit km_X7_134 rfl rfl (nle rfl) (nle rfl) (nle rfl) dX7_comparison_49 hC24 ?_
        have h25 := hC24.1 X
        have o26 := h25.ok o19
        show S0 X _ q22.1 52 [some (.ref (gh (xG X) + a0)), some (.int x1), some (.int q7)] [.int q22.2] _
        refine s_pop (pc := 52) dX7_comparison_52 rfl ?_
        refine s_iconst (pc := 53) 1 dX7_comparison_53 kc_1 ?_
        exact s_zret rfl rfl dX7_comparison_54
      · refine s_iconst (pc := 41) 0 dX7_comparison_41 kc_0 ?_
        exact s_zret rfl rfl dX7_comparison_42
    · refine s_aload_n (pc := 24) 0 dX7_comparison_24 rfl rfl ?_
      refine s_bind (fun q27 hq28 => ?_)
      have hC29 := t_X7_fail (l := xl X) (G := xG X) hq28
      refine s_callV (pc := 25) (As := []) (st := []) (nlt rfl) (q := (RX7, TX7, 10)) rfl rfl o6 cl_X7_fail wi_X7_fail wl_X7_fail km_X7_76 rfl rfl (nle rfl) (nle rfl) (nle rfl) dX7_comparison_25 hC29 ?_
      have h30 := hC29.1 X
      have o31 := h30.ok o6
      show S0 X _ q27.1 28 [some (.ref (gh (xG X) + a0)), some (.int x1), some (.int q7)] [.int q27.2] _
      refine s_grd (fun g32 => ?_)
      exact s_zret rfl g32 dX7_comparison_28
  · refine s_iconst (pc := 8) 0 dX7_comparison_8 kc_0 ?_
    exact s_zret rfl rfl dX7_comparison_9
noncomputable def f_X7_sumFor (M : Mem) (a0 : Nat) (x1 : Int32) : Option (Mem × Int32) :=
  grd (okO M 7 a0) (Option.bind (mR M a0 3) (fun r2 => Option.bind (mR M a0 3) (fun r3 => grd (okO M 9 r3) (grd (okO M 9 r2) (Option.bind (f_X9_set M r2 x1 (mI M r3 3)) (fun q6 => Option.bind (f_X7_sum 100 q6 a0 0) (fun q11 => if q11.2 = 0 then (some (q11.1, 0)) else (Option.bind (mR q11.1 a0 3) (fun r16 => grd (okO q11.1 9 r16) (Option.bind (f_X9_emit q11.1 r16 0 0) (fun q18 => some (q18.1, 1))))))))))))
abbrev Y_X7_sumFor : Sta := (RX7, "sumFor", cX7_sumFor, 2, (some .boolean), 104)
set_option maxRecDepth 100000 in
set_option maxHeartbeats 8000000 in
theorem t_X7_sumFor {l : Launch} {G : Gh} {M : Mem} {a0 : Nat} {x1 : Int32} {q : Mem × Int32} (h : f_X7_sumFor M a0 x1 = some q) : Ctr l G yX7_sumFor Y_X7_sumFor M [.ref (gh G + a0), .int x1] q.1 (some (.int q.2)) := by
  refine Ctr.of (Y := Y_X7_sumFor) (L := [some (.ref (gh G + a0)), some (.int x1)]) (t := Option.bind (f_X7_sumFor M a0 x1) (fun q => some (q.1, some (.int q.2)))) (by decide) rfl rfl (nle rfl) (Lof_in 0 _ rfl) (fun X hG hl => ?_) (by rw [h]; rfl)
  subst hG
  subst hl
  unfold f_X7_sumFor
  refine s_aload_n (pc := 0) 0 dX7_sumFor_0 rfl rfl ?_
  refine s_grd (fun o1 => ?_)
  refine s_geto (pc := 1) F_7 3 rfl o1 dX7_sumFor_1 kf_X7_26 ?_
  refine s_rvB (fun r2 => ?_)
  refine s_iload_n (pc := 4) 1 dX7_sumFor_4 rfl rfl ?_
  refine s_aload_n (pc := 5) 0 dX7_sumFor_5 rfl rfl ?_
  refine s_geto (pc := 6) F_7 3 rfl o1 dX7_sumFor_6 kf_X7_26 ?_
  refine s_rvB (fun r3 => ?_)
  refine s_grd (fun o4 => ?_)
  refine s_geti (pc := 9) F_9 3 rfl o4 dX7_sumFor_9 kf_X7_126 ?_
  refine s_grd (fun o5 => ?_)
  refine s_bind (fun q6 hq7 => ?_)
  have hC8 := t_X9_set (l := xl X) (G := xG X) hq7
  refine s_callV (pc := 12) (As := [.int x1, .int (mI M r3 3)]) (st := []) (nlt rfl) (q := (RX9, TX9, 5)) rfl rfl o5 cl_X9_set wi_X9_set wl_X9_set km_X7_123 rfl rfl (nle rfl) (nle rfl) (nle rfl) dX7_sumFor_12 hC8 ?_
  have h9 := hC8.1 X
  have o10 := h9.ok o1
  show S0 X _ q6 15 [some (.ref (gh (xG X) + a0)), some (.int x1)] [] _
  refine s_aload_n (pc := 15) 0 dX7_sumFor_15 rfl rfl ?_
  refine s_iconst (pc := 16) 0 dX7_sumFor_16 kc_0 ?_
  refine s_bind (fun q11 hq12 => ?_)
  have hC13 := tf_X7_sum (l := xl X) (G := xG X) hq12
  refine s_callV (pc := 17) (As := [.int 0]) (st := []) (nlt rfl) (q := (RX7, TX7, 10)) rfl rfl o10 cl_X7_sum wi_X7_sum wl_X7_sum km_X7_137 rfl rfl (nle rfl) (nle rfl) (nle rfl) dX7_sumFor_17 hC13 ?_
  have h14 := hC13.1 X
  have o15 := h14.ok o10
  show S0 X _ q11.1 20 [some (.ref (gh (xG X) + a0)), some (.int x1)] [.int q11.2] _
  refine s_ifne (pc := 20) 25 dX7_sumFor_20 rfl ?_ ?_
  · refine s_aload_n (pc := 25) 0 dX7_sumFor_25 rfl rfl ?_
    refine s_geto (pc := 26) F_7 3 rfl o15 dX7_sumFor_26 kf_X7_26 ?_
    refine s_rvB (fun r16 => ?_)
    refine s_iconst (pc := 29) 0 dX7_sumFor_29 kc_0 ?_
    refine s_iconst (pc := 30) 0 dX7_sumFor_30 kc_0 ?_
    refine s_grd (fun o17 => ?_)
    refine s_bind (fun q18 hq19 => ?_)
    have hC20 := t_X9_emit (l := xl X) (G := xG X) hq19
    refine s_callV (pc := 31) (As := [.int 0, .int 0]) (st := []) (nlt rfl) (q := (RX9, TX9, 5)) rfl rfl o17 cl_X9_emit wi_X9_emit wl_X9_emit km_X7_134 rfl rfl (nle rfl) (nle rfl) (nle rfl) dX7_sumFor_31 hC20 ?_
    have h21 := hC20.1 X
    have o22 := h21.ok o15
    show S0 X _ q18.1 34 [some (.ref (gh (xG X) + a0)), some (.int x1)] [.int q18.2] _
    refine s_pop (pc := 34) dX7_sumFor_34 rfl ?_
    refine s_iconst (pc := 35) 1 dX7_sumFor_35 kc_1 ?_
    exact s_zret rfl rfl dX7_sumFor_36
  · refine s_iconst (pc := 23) 0 dX7_sumFor_23 kc_0 ?_
    exact s_zret rfl rfl dX7_sumFor_24
noncomputable def f_X12_goesAlong (M : Mem) (a0 : Nat) (x1 : Int32) (x2 : Int32) : Option Mem :=
  grd (okO M 12 a0) (bv (wI M a0 29 1) (fun M2 => bv (wI M2 a0 27 x1) (fun M6 => Option.bind (mR M6 a0 31) (fun r10 => Option.bind (mR M6 a0 3) (fun r11 => grd (okO M6 14 r11) (grd (vp_in 54 (mL M6 r11)) (grd (okO M6 14 r10) (grd (vp_in 0 (mL M6 r10)) (bv (wI M6 r10 (0 : Int32).toNatClampNeg (mI M6 r11 (54 : Int32).toNatClampNeg)) (fun M16 => Option.bind (mR M16 a0 31) (fun r20 => Option.bind (mR M16 a0 3) (fun r21 => grd (okO M16 14 r21) (grd (vp_in 56 (mL M16 r21)) (grd (okO M16 14 r20) (grd (vp_in 1 (mL M16 r20)) (bv (wI M16 r20 (1 : Int32).toNatClampNeg (mI M16 r21 (56 : Int32).toNatClampNeg)) (fun M26 => Option.bind (mR M26 a0 31) (fun r30 => grd (okO M26 14 r30) (grd (vp_in 2 (mL M26 r30)) (bv (wI M26 r30 (2 : Int32).toNatClampNeg (mI M26 a0 47)) (fun M33 => Option.bind (mR M33 a0 31) (fun r37 => grd (okO M33 14 r37) (grd (vp_in 3 (mL M33 r37)) (bv (wI M33 r37 (3 : Int32).toNatClampNeg (mI M33 a0 48)) (fun M40 => bv (wI M40 a0 26 (mI M40 a0 49)) (fun M44 => Option.bind (f_X12_codeAt M44 a0 (mI M44 a0 26)) (fun q48 => bv (wI M44 a0 51 q48) (fun M51 => bv (wI M51 a0 26 ((mI M51 a0 26) + 1)) (fun M55 => bv (wI M55 a0 53 1) (fun M59 => Option.bind (mR M59 a0 55) (fun r63 => grd (okO M59 15 r63) (grd (vp_in 1 (mL M59 r63)) (bv (wJ M59 r63 (1 : Int32).toNatClampNeg 0) (fun M66 => Option.bind (f_X12_nextSum M66 a0 0 x2) (fun q70 => bv (fun (s76 : Mem) => bv (wI s76 a0 50 1) (fun M80 => Option.bind (f_X12_passes0 M80 a0 26) (fun q84 => bv (fun (s90 : Mem) => bv (wI s90 a0 28 0) (fun M94 => Option.bind (f_X12_passes0 M94 a0 3) (fun q98 => bv (fun (s104 : Mem × Int32) => grd (bl s104.2) (bv (wI s104.1 a0 54 s104.2) (fun M108 => bv (fun (s114 : Int32) => grd (bl s114) (bv (wI M108 a0 54 s114) (fun M117 => bv (wI M117 a0 26 ((mI M117 a0 26) + 1)) (fun M122 => some M122)))) (fun j113 => bv (fun (s127 : Unit) => j113 0) (fun j126 => if (mI M108 a0 54) = 0 then (j126 ()) else (if (mI M108 a0 28) = 0 then (j113 1) else (j126 ()))))))) (fun j103 => bv (fun (s131 : Mem) => j103 (s131, 1)) (fun j130 => if q98.2 = 0 then (j130 q98.1) else (Option.bind (f_X12_testOf 100 q98.1 a0 x2) (fun q135 => if q135.2 = 0 then (j103 (q135.1, 0)) else (j130 q135.1)))))))) (fun j89 => if q84.2 = 0 then (j89 q84.1) else (Option.bind (mR q84.1 a0 3) (fun r140 => grd (okO q84.1 14 r140) (grd (vp_in (2866 + (mI q84.1 a0 26)) (mL q84.1 r140)) (bv (wI q84.1 a0 50 (mI q84.1 r140 (2866 + (mI q84.1 a0 26)).toNatClampNeg)) (fun M143 => bv (wI M143 a0 26 ((mI M143 a0 26) + 1)) (fun M147 => j89 M147)))))))))) (fun j75 => if (mI q70 a0 51) = 19 then (Option.bind (f_X12_codeAt q70 a0 (mI q70 a0 26)) (fun q151 => bv (wI q70 a0 26 ((mI q70 a0 26) + 1)) (fun M154 => bv (fun (s159 : Int32) => bv (wI M154 a0 52 s159) (fun M162 => bv (fun (s167 : Mem) => bv (wI s167 a0 26 ((mI s167 a0 26) + 1)) (fun M171 => Option.bind (f_X12_nextSum M171 a0 2 x2) (fun q175 => j75 q175))) (fun j166 => if (mI M162 a0 52) = 1 then (Option.bind (f_X12_nextSum M162 a0 1 x2) (fun q180 => j166 q180)) else (j166 M162)))) (fun j158 => if q151 = 20 then (j158 0) else (if q151 = 24 then (j158 1) else (if q151 = 21 then (j158 2) else (if q151 = 22 then (j158 3) else (j158 4)))))))) else (j75 q70)))))))))))))))))))))))))))))))))))))
abbrev Y_X12_goesAlong : Sta := (RX12, "goesAlong", cX12_goesAlong, 4, none, 105)
set_option maxRecDepth 100000 in
set_option maxHeartbeats 8000000 in
theorem t_X12_goesAlong {l : Launch} {G : Gh} {M : Mem} {a0 : Nat} {x1 : Int32} {x2 : Int32} {q : Mem} (h : f_X12_goesAlong M a0 x1 x2 = some q) : Ctr l G yX12_goesAlong Y_X12_goesAlong M [.ref (gh G + a0), .int x1, .int x2] q (none) := by
  refine Ctr.of (Y := Y_X12_goesAlong) (L := [some (.ref (gh G + a0)), some (.int x1), some (.int x2), none]) (t := Option.bind (f_X12_goesAlong M a0 x1 x2) (fun q => some (q, (none : Option Value)))) (by decide) rfl rfl (nle rfl) (Lof_in 1 _ rfl) (fun X hG hl => ?_) (by rw [h]; rfl)
  subst hG
  subst hl
  unfold f_X12_goesAlong
  refine s_aload_n (pc := 0) 0 dX12_goesAlong_0 rfl rfl ?_
  refine s_iconst (pc := 1) 1 dX12_goesAlong_1 kc_1 ?_
  refine s_grd (fun o1 => ?_)
  refine s_puti (pc := 2) F_12 29 rfl o1 rfl rfl rfl dX12_goesAlong_2 kf_X12_339 (fun M2 hM3 => ?_)
  have h4 := le_wI hM3
  have o5 := h4.ok o1
  refine s_aload_n (pc := 5) 0 dX12_goesAlong_5 rfl rfl ?_
  refine s_iload_n (pc := 6) 1 dX12_goesAlong_6 rfl rfl ?_
  refine s_puti (pc := 7) F_12 27 rfl o5 rfl rfl rfl dX12_goesAlong_7 kf_X12_306 (fun M6 hM7 => ?_)
  have h8 := le_wI hM7
  have o9 := h8.ok o5
  refine s_aload_n (pc := 10) 0 dX12_goesAlong_10 rfl rfl ?_
  refine s_geto (pc := 11) F_12 31 rfl o9 dX12_goesAlong_11 kf_X12_64 ?_
  refine s_rvB (fun r10 => ?_)
  refine s_iconst (pc := 14) 0 dX12_goesAlong_14 kc_0 ?_
  refine s_aload_n (pc := 15) 0 dX12_goesAlong_15 rfl rfl ?_
  refine s_geto (pc := 16) F_12 3 rfl o9 dX12_goesAlong_16 kf_X12_20 ?_
  refine s_rvB (fun r11 => ?_)
  refine s_bipush (pc := 19) 54 dX12_goesAlong_19 kb_54 ?_
  refine s_grd (fun o12 => ?_)
  refine s_grd (fun i13 => ?_)
  refine s_iald (pc := 21) o12 i13 dX12_goesAlong_21 ?_
  refine s_grd (fun o14 => ?_)
  refine s_grd (fun i15 => ?_)
  refine s_iast (pc := 22) o14 i15 dX12_goesAlong_22 (fun M16 hM17 => ?_)
  have h18 := le_wI hM17
  have o19 := h18.ok o9
  refine s_aload_n (pc := 23) 0 dX12_goesAlong_23 rfl rfl ?_
  refine s_geto (pc := 24) F_12 31 rfl o19 dX12_goesAlong_24 kf_X12_64 ?_
  refine s_rvB (fun r20 => ?_)
  refine s_iconst (pc := 27) 1 dX12_goesAlong_27 kc_1 ?_
  refine s_aload_n (pc := 28) 0 dX12_goesAlong_28 rfl rfl ?_
  refine s_geto (pc := 29) F_12 3 rfl o19 dX12_goesAlong_29 kf_X12_20 ?_
  refine s_rvB (fun r21 => ?_)
  refine s_bipush (pc := 32) 56 dX12_goesAlong_32 kb_56 ?_
  refine s_grd (fun o22 => ?_)
  refine s_grd (fun i23 => ?_)
  refine s_iald (pc := 34) o22 i23 dX12_goesAlong_34 ?_
  refine s_grd (fun o24 => ?_)
  refine s_grd (fun i25 => ?_)
  refine s_iast (pc := 35) o24 i25 dX12_goesAlong_35 (fun M26 hM27 => ?_)
  have h28 := le_wI hM27
  have o29 := h28.ok o19
  refine s_aload_n (pc := 36) 0 dX12_goesAlong_36 rfl rfl ?_
  refine s_geto (pc := 37) F_12 31 rfl o29 dX12_goesAlong_37 kf_X12_64 ?_
  refine s_rvB (fun r30 => ?_)
  refine s_iconst (pc := 40) 2 dX12_goesAlong_40 kc_2 ?_
  refine s_aload_n (pc := 41) 0 dX12_goesAlong_41 rfl rfl ?_
  refine s_geti (pc := 42) F_12 47 rfl o29 dX12_goesAlong_42 kf_X12_419 ?_
  refine s_grd (fun o31 => ?_)
  refine s_grd (fun i32 => ?_)
  refine s_iast (pc := 45) o31 i32 dX12_goesAlong_45 (fun M33 hM34 => ?_)
  have h35 := le_wI hM34
  have o36 := h35.ok o29
  refine s_aload_n (pc := 46) 0 dX12_goesAlong_46 rfl rfl ?_
  refine s_geto (pc := 47) F_12 31 rfl o36 dX12_goesAlong_47 kf_X12_64 ?_
  refine s_rvB (fun r37 => ?_)
  refine s_iconst (pc := 50) 3 dX12_goesAlong_50 kc_3 ?_
  refine s_aload_n (pc := 51) 0 dX12_goesAlong_51 rfl rfl ?_
  refine s_geti (pc := 52) F_12 48 rfl o36 dX12_goesAlong_52 kf_X12_422 ?_
  refine s_grd (fun o38 => ?_)
  refine s_grd (fun i39 => ?_)
  refine s_iast (pc := 55) o38 i39 dX12_goesAlong_55 (fun M40 hM41 => ?_)
  have h42 := le_wI hM41
  have o43 := h42.ok o36
  refine s_aload_n (pc := 56) 0 dX12_goesAlong_56 rfl rfl ?_
  refine s_aload_n (pc := 57) 0 dX12_goesAlong_57 rfl rfl ?_
  refine s_geti (pc := 58) F_12 49 rfl o43 dX12_goesAlong_58 kf_X12_425 ?_
  refine s_puti (pc := 61) F_12 26 rfl o43 rfl rfl rfl dX12_goesAlong_61 kf_X12_309 (fun M44 hM45 => ?_)
  have h46 := le_wI hM45
  have o47 := h46.ok o43
  refine s_aload_n (pc := 64) 0 dX12_goesAlong_64 rfl rfl ?_
  refine s_aload_n (pc := 65) 0 dX12_goesAlong_65 rfl rfl ?_
  refine s_aload_n (pc := 66) 0 dX12_goesAlong_66 rfl rfl ?_
  refine s_geti (pc := 67) F_12 26 rfl o47 dX12_goesAlong_67 kf_X12_309 ?_
  refine s_bind (fun q48 hq49 => ?_)
  have hC50 := t_X12_codeAt (l := xl X) (G := xG X) hq49
  refine s_callV (pc := 70) (As := [.int (mI M44 a0 26)]) (st := [.ref (gh (xG X) + a0)]) (nlt rfl) (q := (RX12, TX12, 59)) rfl rfl o47 cl_X12_codeAt wi_X12_codeAt wl_X12_codeAt km_X12_312 rfl rfl (nle rfl) (nle rfl) (nle rfl) dX12_goesAlong_70 hC50 ?_
  show S0 X _ M44 73 [some (.ref (gh (xG X) + a0)), some (.int x1), some (.int x2), none] [.int q48, .ref (gh (xG X) + a0)] _
  refine s_puti (pc := 73) F_12 51 rfl o47 rfl rfl rfl dX12_goesAlong_73 kf_X12_434 (fun M51 hM52 => ?_)
  have h53 := le_wI hM52
  have o54 := h53.ok o47
  refine s_aload_n (pc := 76) 0 dX12_goesAlong_76 rfl rfl ?_
  refine s_dup (pc := 77) dX12_goesAlong_77 rfl ?_
  refine s_geti (pc := 78) F_12 26 rfl o54 dX12_goesAlong_78 kf_X12_309 ?_
  refine s_iconst (pc := 81) 1 dX12_goesAlong_81 kc_1 ?_
  refine s_iadd (pc := 82) dX12_goesAlong_82 ?_
  refine s_puti (pc := 83) F_12 26 rfl o54 rfl rfl rfl dX12_goesAlong_83 kf_X12_309 (fun M55 hM56 => ?_)
  have h57 := le_wI hM56
  have o58 := h57.ok o54
  refine s_aload_n (pc := 86) 0 dX12_goesAlong_86 rfl rfl ?_
  refine s_iconst (pc := 87) 1 dX12_goesAlong_87 kc_1 ?_
  refine s_puti (pc := 88) F_12 53 rfl o58 rfl rfl rfl dX12_goesAlong_88 kf_X12_431 (fun M59 hM60 => ?_)
  have h61 := le_wI hM60
  have o62 := h61.ok o58
  refine s_aload_n (pc := 91) 0 dX12_goesAlong_91 rfl rfl ?_
  refine s_geto (pc := 92) F_12 55 rfl o62 dX12_goesAlong_92 kf_X12_114 ?_
  refine s_rvB (fun r63 => ?_)
  refine s_iconst (pc := 95) 1 dX12_goesAlong_95 kc_1 ?_
  refine s_lconst (pc := 96) 0 dX12_goesAlong_96 kl_0 ?_
  refine s_grd (fun o64 => ?_)
  refine s_grd (fun i65 => ?_)
  refine s_last (pc := 97) o64 i65 dX12_goesAlong_97 (fun M66 hM67 => ?_)
  have h68 := le_wJ hM67
  have o69 := h68.ok o62
  refine s_aload_n (pc := 98) 0 dX12_goesAlong_98 rfl rfl ?_
  refine s_iconst (pc := 99) 0 dX12_goesAlong_99 kc_0 ?_
  refine s_iload_n (pc := 100) 2 dX12_goesAlong_100 rfl rfl ?_
  refine s_bind (fun q70 hq71 => ?_)
  have hC72 := t_X12_nextSum (l := xl X) (G := xG X) hq71
  refine s_callV (pc := 101) (As := [.int 0, .int x2]) (st := []) (nlt rfl) (q := (RX12, TX12, 59)) rfl rfl o69 cl_X12_nextSum wi_X12_nextSum wl_X12_nextSum km_X12_437 rfl rfl (nle rfl) (nle rfl) (nle rfl) dX12_goesAlong_101 hC72 ?_
  have h73 := hC72.1 X
  have o74 := h73.ok o69
  show S0 X _ q70 104 [some (.ref (gh (xG X) + a0)), some (.int x1), some (.int x2), none] [] _
  refine s_aload_n (pc := 104) 0 dX12_goesAlong_104 rfl rfl ?_
  refine s_geti (pc := 105) F_12 51 rfl o74 dX12_goesAlong_105 kf_X12_434 ?_
  refine s_bipush (pc := 108) 19 dX12_goesAlong_108 kb_19 ?_
  refine s_join q70 (fun s76 : Mem => s76) 207 (fun s76 : Mem => [some (.ref (gh (xG X) + a0)), none, some (.int x2), none]) (fun s76 : Mem => []) (fun s76 hs77 => ?_) (fun j75 hj78 => ?_)
  · show S0 X _ s76 207 [some (.ref (gh (xG X) + a0)), none, some (.int x2), none] [] _
    have o79 := hs77.ok o74
    refine s_aload_n (pc := 207) 0 dX12_goesAlong_207 rfl rfl ?_
    refine s_iconst (pc := 208) 1 dX12_goesAlong_208 kc_1 ?_
    refine s_puti (pc := 209) F_12 50 rfl o79 rfl rfl rfl dX12_goesAlong_209 kf_X12_444 (fun M80 hM81 => ?_)
    have h82 := le_wI hM81
    have o83 := h82.ok o79
    refine s_aload_n (pc := 212) 0 dX12_goesAlong_212 rfl rfl ?_
    refine s_bipush (pc := 213) 26 dX12_goesAlong_213 kb_26 ?_
    refine s_bind (fun q84 hq85 => ?_)
    have hC86 := t_X12_passes0 (l := xl X) (G := xG X) hq85
    refine s_callV (pc := 215) (As := [.int 26]) (st := []) (nlt rfl) (q := (RX12, TX12, 59)) rfl rfl o83 cl_X12_passes0 wi_X12_passes0 wl_X12_passes0 km_X12_333 rfl rfl (nle rfl) (nle rfl) (nle rfl) dX12_goesAlong_215 hC86 ?_
    have h87 := hC86.1 X
    have o88 := h87.ok o83
    show S0 X _ q84.1 218 [some (.ref (gh (xG X) + a0)), none, some (.int x2), none] [.int q84.2] _
    refine s_join q84.1 (fun s90 : Mem => s90) 248 (fun s90 : Mem => [some (.ref (gh (xG X) + a0)), none, some (.int x2), none]) (fun s90 : Mem => []) (fun s90 hs91 => ?_) (fun j89 hj92 => ?_)
    · show S0 X _ s90 248 [some (.ref (gh (xG X) + a0)), none, some (.int x2), none] [] _
      have o93 := hs91.ok o88
      refine s_aload_n (pc := 248) 0 dX12_goesAlong_248 rfl rfl ?_
      refine s_iconst (pc := 249) 0 dX12_goesAlong_249 kc_0 ?_
      refine s_puti (pc := 250) F_12 28 rfl o93 rfl rfl rfl dX12_goesAlong_250 kf_X12_319 (fun M94 hM95 => ?_)
      have h96 := le_wI hM95
      have o97 := h96.ok o93
      refine s_aload_n (pc := 253) 0 dX12_goesAlong_253 rfl rfl ?_
      refine s_aload_n (pc := 254) 0 dX12_goesAlong_254 rfl rfl ?_
      refine s_iconst (pc := 255) 3 dX12_goesAlong_255 kc_3 ?_
      refine s_bind (fun q98 hq99 => ?_)
      have hC100 := t_X12_passes0 (l := xl X) (G := xG X) hq99
      refine s_callV (pc := 256) (As := [.int 3]) (st := [.ref (gh (xG X) + a0)]) (nlt rfl) (q := (RX12, TX12, 59)) rfl rfl o97 cl_X12_passes0 wi_X12_passes0 wl_X12_passes0 km_X12_333 rfl rfl (nle rfl) (nle rfl) (nle rfl) dX12_goesAlong_256 hC100 ?_
      have h101 := hC100.1 X
      have o102 := h101.ok o97
      show S0 X _ q98.1 259 [some (.ref (gh (xG X) + a0)), none, some (.int x2), none] [.int q98.2, .ref (gh (xG X) + a0)] _
      refine s_join q98.1 (fun s104 : Mem × Int32 => s104.1) 275 (fun s104 : Mem × Int32 => [some (.ref (gh (xG X) + a0)), none, none, none]) (fun s104 : Mem × Int32 => [.int s104.2, .ref (gh (xG X) + a0)]) (fun s104 hs105 => ?_) (fun j103 hj106 => ?_)
      · show S0 X _ s104.1 275 [some (.ref (gh (xG X) + a0)), none, none, none] [.int s104.2, .ref (gh (xG X) + a0)] _
        have o107 := hs105.ok o102
        refine s_grd (fun g111 => ?_)
        refine s_puti (pc := 275) F_12 54 rfl o107 rfl g111 rfl dX12_goesAlong_275 kf_X12_447 (fun M108 hM109 => ?_)
        have h110 := le_wI hM109
        have o112 := h110.ok o107
        refine s_aload_n (pc := 278) 0 dX12_goesAlong_278 rfl rfl ?_
        refine s_aload_n (pc := 279) 0 dX12_goesAlong_279 rfl rfl ?_
        refine s_geti (pc := 280) F_12 54 rfl o112 dX12_goesAlong_280 kf_X12_447 ?_
        refine s_join M108 (fun s114 : Int32 => M108) 298 (fun s114 : Int32 => [some (.ref (gh (xG X) + a0)), none, none, none]) (fun s114 : Int32 => [.int s114, .ref (gh (xG X) + a0)]) (fun s114 hs115 => ?_) (fun j113 hj116 => ?_)
        · show S0 X _ M108 298 [some (.ref (gh (xG X) + a0)), none, none, none] [.int s114, .ref (gh (xG X) + a0)] _
          refine s_grd (fun g120 => ?_)
          refine s_puti (pc := 298) F_12 54 rfl o112 rfl g120 rfl dX12_goesAlong_298 kf_X12_447 (fun M117 hM118 => ?_)
          have h119 := le_wI hM118
          have o121 := h119.ok o112
          refine s_aload_n (pc := 301) 0 dX12_goesAlong_301 rfl rfl ?_
          refine s_dup (pc := 302) dX12_goesAlong_302 rfl ?_
          refine s_geti (pc := 303) F_12 26 rfl o121 dX12_goesAlong_303 kf_X12_309 ?_
          refine s_iconst (pc := 306) 1 dX12_goesAlong_306 kc_1 ?_
          refine s_iadd (pc := 307) dX12_goesAlong_307 ?_
          refine s_puti (pc := 308) F_12 26 rfl o121 rfl rfl rfl dX12_goesAlong_308 kf_X12_309 (fun M122 hM123 => ?_)
          have h124 := le_wI hM123
          have o125 := h124.ok o121
          exact s_vret rfl dX12_goesAlong_311
        · refine s_join M108 (fun s127 : Unit => M108) 297 (fun s127 : Unit => [some (.ref (gh (xG X) + a0)), none, none, none]) (fun s127 : Unit => [.ref (gh (xG X) + a0)]) (fun s127 hs128 => ?_) (fun j126 hj129 => ?_)
          · show S0 X _ M108 297 [some (.ref (gh (xG X) + a0)), none, none, none] [.ref (gh (xG X) + a0)] _
            refine s_iconst (pc := 297) 0 dX12_goesAlong_297 kc_0 ?_
            exact s_drop (hj116 0 Le.rf) (And.intro rfl trivial)
          · refine s_ifeq (pc := 283) 297 dX12_goesAlong_283 rfl ?_ ?_
            · exact s_drop (hj129 () Le.rf) (And.intro rfl trivial)
            · refine s_aload_n (pc := 286) 0 dX12_goesAlong_286 rfl rfl ?_
              refine s_geti (pc := 287) F_12 28 rfl o112 dX12_goesAlong_287 kf_X12_319 ?_
              refine s_ifne (pc := 290) 297 dX12_goesAlong_290 rfl ?_ ?_
              · exact s_drop (hj129 () Le.rf) (And.intro rfl trivial)
              · refine s_iconst (pc := 293) 1 dX12_goesAlong_293 kc_1 ?_
                refine s_goto (pc := 294) 298 dX12_goesAlong_294 rfl ?_
                exact s_drop (hj116 1 Le.rf) (And.intro rfl trivial)
      · refine s_join q98.1 (fun s131 : Mem => s131) 270 (fun s131 : Mem => [some (.ref (gh (xG X) + a0)), none, none, none]) (fun s131 : Mem => [.ref (gh (xG X) + a0)]) (fun s131 hs132 => ?_) (fun j130 hj133 => ?_)
        · show S0 X _ s131 270 [some (.ref (gh (xG X) + a0)), none, none, none] [.ref (gh (xG X) + a0)] _
          have o134 := hs132.ok o102
          refine s_iconst (pc := 270) 1 dX12_goesAlong_270 kc_1 ?_
          refine s_goto (pc := 271) 275 dX12_goesAlong_271 rfl ?_
          exact s_drop (hj106 (s131, 1) hs132) (And.intro rfl trivial)
        · refine s_ifeq (pc := 259) 270 dX12_goesAlong_259 rfl ?_ ?_
          · exact s_drop (hj133 q98.1 Le.rf) (And.intro rfl trivial)
          · refine s_aload_n (pc := 262) 0 dX12_goesAlong_262 rfl rfl ?_
            refine s_iload_n (pc := 263) 2 dX12_goesAlong_263 rfl rfl ?_
            refine s_bind (fun q135 hq136 => ?_)
            have hC137 := tf_X12_testOf (l := xl X) (G := xG X) hq136
            refine s_callV (pc := 264) (As := [.int x2]) (st := [.ref (gh (xG X) + a0)]) (nlt rfl) (q := (RX12, TX12, 59)) rfl rfl o102 cl_X12_testOf wi_X12_testOf wl_X12_testOf km_X12_354 rfl rfl (nle rfl) (nle rfl) (nle rfl) dX12_goesAlong_264 hC137 ?_
            have h138 := hC137.1 X
            have o139 := h138.ok o102
            show S0 X _ q135.1 267 [some (.ref (gh (xG X) + a0)), none, some (.int x2), none] [.int q135.2, .ref (gh (xG X) + a0)] _
            refine s_ifeq (pc := 267) 274 dX12_goesAlong_267 rfl ?_ ?_
            · refine s_iconst (pc := 274) 0 dX12_goesAlong_274 kc_0 ?_
              exact s_drop (hj106 (q135.1, 0) h138) (And.intro rfl trivial)
            · exact s_drop (hj133 q135.1 h138) (And.intro rfl trivial)
    · refine s_ifeq (pc := 218) 248 dX12_goesAlong_218 rfl ?_ ?_
      · exact s_drop (hj92 q84.1 Le.rf) (And.intro rfl (And.intro rfl trivial))
      · refine s_aload_n (pc := 221) 0 dX12_goesAlong_221 rfl rfl ?_
        refine s_aload_n (pc := 222) 0 dX12_goesAlong_222 rfl rfl ?_
        refine s_geto (pc := 223) F_12 3 rfl o88 dX12_goesAlong_223 kf_X12_20 ?_
        refine s_rvB (fun r140 => ?_)
        refine s_sipush (pc := 226) 2866 dX12_goesAlong_226 ks_2866 ?_
        refine s_aload_n (pc := 229) 0 dX12_goesAlong_229 rfl rfl ?_
        refine s_geti (pc := 230) F_12 26 rfl o88 dX12_goesAlong_230 kf_X12_309 ?_
        refine s_iadd (pc := 233) dX12_goesAlong_233 ?_
        refine s_grd (fun o141 => ?_)
        refine s_grd (fun i142 => ?_)
        refine s_iald (pc := 234) o141 i142 dX12_goesAlong_234 ?_
        refine s_puti (pc := 235) F_12 50 rfl o88 rfl rfl rfl dX12_goesAlong_235 kf_X12_444 (fun M143 hM144 => ?_)
        have h145 := le_wI hM144
        have o146 := h145.ok o88
        refine s_aload_n (pc := 238) 0 dX12_goesAlong_238 rfl rfl ?_
        refine s_dup (pc := 239) dX12_goesAlong_239 rfl ?_
        refine s_geti (pc := 240) F_12 26 rfl o146 dX12_goesAlong_240 kf_X12_309 ?_
        refine s_iconst (pc := 243) 1 dX12_goesAlong_243 kc_1 ?_
        refine s_iadd (pc := 244) dX12_goesAlong_244 ?_
        refine s_puti (pc := 245) F_12 26 rfl o146 rfl rfl rfl dX12_goesAlong_245 kf_X12_309 (fun M147 hM148 => ?_)
        have h149 := le_wI hM148
        have o150 := h149.ok o146
        exact s_drop (hj92 M147 (h145.tr h149)) (And.intro rfl (And.intro rfl trivial))
  · refine s_icne (pc := 110) 207 dX12_goesAlong_110 rfl ?_ ?_
    · exact s_drop (hj78 q70 Le.rf) (And.intro rfl (And.intro rfl trivial))
    · refine s_aload_n (pc := 113) 0 dX12_goesAlong_113 rfl rfl ?_
      refine s_aload_n (pc := 114) 0 dX12_goesAlong_114 rfl rfl ?_
      refine s_geti (pc := 115) F_12 26 rfl o74 dX12_goesAlong_115 kf_X12_309 ?_
      refine s_bind (fun q151 hq152 => ?_)
      have hC153 := t_X12_codeAt (l := xl X) (G := xG X) hq152
      refine s_callV (pc := 118) (As := [.int (mI q70 a0 26)]) (st := []) (nlt rfl) (q := (RX12, TX12, 59)) rfl rfl o74 cl_X12_codeAt wi_X12_codeAt wl_X12_codeAt km_X12_312 rfl rfl (nle rfl) (nle rfl) (nle rfl) dX12_goesAlong_118 hC153 ?_
      show S0 X _ q70 121 [some (.ref (gh (xG X) + a0)), some (.int x1), some (.int x2), none] [.int q151] _
      refine s_istore_n (pc := 121) 3 dX12_goesAlong_121 rfl (nlt rfl) rfl (L' := [some (.ref (gh (xG X) + a0)), some (.int x1), some (.int x2), some (.int q151)]) rfl ?_
      refine s_aload_n (pc := 122) 0 dX12_goesAlong_122 rfl rfl ?_
      refine s_dup (pc := 123) dX12_goesAlong_123 rfl ?_
      refine s_geti (pc := 124) F_12 26 rfl o74 dX12_goesAlong_124 kf_X12_309 ?_
      refine s_iconst (pc := 127) 1 dX12_goesAlong_127 kc_1 ?_
      refine s_iadd (pc := 128) dX12_goesAlong_128 ?_
      refine s_puti (pc := 129) F_12 26 rfl o74 rfl rfl rfl dX12_goesAlong_129 kf_X12_309 (fun M154 hM155 => ?_)
      have h156 := le_wI hM155
      have o157 := h156.ok o74
      refine s_aload_n (pc := 132) 0 dX12_goesAlong_132 rfl rfl ?_
      refine s_iload_n (pc := 133) 3 dX12_goesAlong_133 rfl rfl ?_
      refine s_bipush (pc := 134) 20 dX12_goesAlong_134 kb_20 ?_
      refine s_join M154 (fun s159 : Int32 => M154) 174 (fun s159 : Int32 => [some (.ref (gh (xG X) + a0)), none, some (.int x2), none]) (fun s159 : Int32 => [.int s159, .ref (gh (xG X) + a0)]) (fun s159 hs160 => ?_) (fun j158 hj161 => ?_)
      · show S0 X _ M154 174 [some (.ref (gh (xG X) + a0)), none, some (.int x2), none] [.int s159, .ref (gh (xG X) + a0)] _
        refine s_puti (pc := 174) F_12 52 rfl o157 rfl rfl rfl dX12_goesAlong_174 kf_X12_441 (fun M162 hM163 => ?_)
        have h164 := le_wI hM163
        have o165 := h164.ok o157
        refine s_aload_n (pc := 177) 0 dX12_goesAlong_177 rfl rfl ?_
        refine s_geti (pc := 178) F_12 52 rfl o165 dX12_goesAlong_178 kf_X12_441 ?_
        refine s_iconst (pc := 181) 1 dX12_goesAlong_181 kc_1 ?_
        refine s_join M162 (fun s167 : Mem => s167) 191 (fun s167 : Mem => [some (.ref (gh (xG X) + a0)), none, some (.int x2), none]) (fun s167 : Mem => []) (fun s167 hs168 => ?_) (fun j166 hj169 => ?_)
        · show S0 X _ s167 191 [some (.ref (gh (xG X) + a0)), none, some (.int x2), none] [] _
          have o170 := hs168.ok o165
          refine s_aload_n (pc := 191) 0 dX12_goesAlong_191 rfl rfl ?_
          refine s_dup (pc := 192) dX12_goesAlong_192 rfl ?_
          refine s_geti (pc := 193) F_12 26 rfl o170 dX12_goesAlong_193 kf_X12_309 ?_
          refine s_iconst (pc := 196) 1 dX12_goesAlong_196 kc_1 ?_
          refine s_iadd (pc := 197) dX12_goesAlong_197 ?_
          refine s_puti (pc := 198) F_12 26 rfl o170 rfl rfl rfl dX12_goesAlong_198 kf_X12_309 (fun M171 hM172 => ?_)
          have h173 := le_wI hM172
          have o174 := h173.ok o170
          refine s_aload_n (pc := 201) 0 dX12_goesAlong_201 rfl rfl ?_
          refine s_iconst (pc := 202) 2 dX12_goesAlong_202 kc_2 ?_
          refine s_iload_n (pc := 203) 2 dX12_goesAlong_203 rfl rfl ?_
          refine s_bind (fun q175 hq176 => ?_)
          have hC177 := t_X12_nextSum (l := xl X) (G := xG X) hq176
          refine s_callV (pc := 204) (As := [.int 2, .int x2]) (st := []) (nlt rfl) (q := (RX12, TX12, 59)) rfl rfl o174 cl_X12_nextSum wi_X12_nextSum wl_X12_nextSum km_X12_437 rfl rfl (nle rfl) (nle rfl) (nle rfl) dX12_goesAlong_204 hC177 ?_
          have h178 := hC177.1 X
          have o179 := h178.ok o174
          show S0 X _ q175 207 [some (.ref (gh (xG X) + a0)), none, some (.int x2), none] [] _
          exact s_drop (hj78 q175 (h156.tr (h164.tr (hs168.tr (h173.tr h178))))) (And.intro rfl (And.intro rfl trivial))
        · refine s_icne (pc := 182) 191 dX12_goesAlong_182 rfl ?_ ?_
          · exact s_drop (hj169 M162 Le.rf) (And.intro rfl (And.intro rfl trivial))
          · refine s_aload_n (pc := 185) 0 dX12_goesAlong_185 rfl rfl ?_
            refine s_iconst (pc := 186) 1 dX12_goesAlong_186 kc_1 ?_
            refine s_iload_n (pc := 187) 2 dX12_goesAlong_187 rfl rfl ?_
            refine s_bind (fun q180 hq181 => ?_)
            have hC182 := t_X12_nextSum (l := xl X) (G := xG X) hq181
            refine s_callV (pc := 188) (As := [.int 1, .int x2]) (st := []) (nlt rfl) (q := (RX12, TX12, 59)) rfl rfl o165 cl_X12_nextSum wi_X12_nextSum wl_X12_nextSum km_X12_437 rfl rfl (nle rfl) (nle rfl) (nle rfl) dX12_goesAlong_188 hC182 ?_
            have h183 := hC182.1 X
            have o184 := h183.ok o165
            show S0 X _ q180 191 [some (.ref (gh (xG X) + a0)), none, some (.int x2), none] [] _
            exact s_drop (hj169 q180 h183) (And.intro rfl (And.intro rfl trivial))
      · refine s_icne (pc := 136) 143 dX12_goesAlong_136 rfl ?_ ?_
        · refine s_iload_n (pc := 143) 3 dX12_goesAlong_143 rfl rfl ?_
          refine s_bipush (pc := 144) 24 dX12_goesAlong_144 kb_24 ?_
          refine s_icne (pc := 146) 153 dX12_goesAlong_146 rfl ?_ ?_
          · refine s_iload_n (pc := 153) 3 dX12_goesAlong_153 rfl rfl ?_
            refine s_bipush (pc := 154) 21 dX12_goesAlong_154 kb_21 ?_
            refine s_icne (pc := 156) 163 dX12_goesAlong_156 rfl ?_ ?_
            · refine s_iload_n (pc := 163) 3 dX12_goesAlong_163 rfl rfl ?_
              refine s_bipush (pc := 164) 22 dX12_goesAlong_164 kb_22 ?_
              refine s_icne (pc := 166) 173 dX12_goesAlong_166 rfl ?_ ?_
              · refine s_iconst (pc := 173) 4 dX12_goesAlong_173 kc_4 ?_
                exact s_drop (hj161 4 Le.rf) (And.intro rfl (And.intro rfl trivial))
              · refine s_iconst (pc := 169) 3 dX12_goesAlong_169 kc_3 ?_
                refine s_goto (pc := 170) 174 dX12_goesAlong_170 rfl ?_
                exact s_drop (hj161 3 Le.rf) (And.intro rfl (And.intro rfl trivial))
            · refine s_iconst (pc := 159) 2 dX12_goesAlong_159 kc_2 ?_
              refine s_goto (pc := 160) 174 dX12_goesAlong_160 rfl ?_
              exact s_drop (hj161 2 Le.rf) (And.intro rfl (And.intro rfl trivial))
          · refine s_iconst (pc := 149) 1 dX12_goesAlong_149 kc_1 ?_
            refine s_goto (pc := 150) 174 dX12_goesAlong_150 rfl ?_
            exact s_drop (hj161 1 Le.rf) (And.intro rfl (And.intro rfl trivial))
        · refine s_iconst (pc := 139) 0 dX12_goesAlong_139 kc_0 ?_
          refine s_goto (pc := 140) 174 dX12_goesAlong_140 rfl ?_
          exact s_drop (hj161 0 Le.rf) (And.intro rfl (And.intro rfl trivial))
