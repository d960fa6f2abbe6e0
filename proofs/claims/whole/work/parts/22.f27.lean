set_option maxRecDepth 100000 in
set_option maxHeartbeats 8000000 in
noncomputable def f_X11_likely (M : Mem) (a0 : Nat) (p1 : Int32) (p2 : Int32) : Option (Mem × Int32) :=
  grd (okO M 11 a0) (Option.bind (mR M a0 8) (fun r2 => Option.bind (f_X6_rankOf p1) (fun q3 => grd (okO M 0 r2) (Option.bind (f_X0_work M r2 q3 p2) (fun q7 => if q7.2 = 0 then (some (q7.1, (-1))) else (Option.bind (mR q7.1 a0 8) (fun r12 => grd (okO q7.1 0 r12) (Option.bind (f_X0_likeliest q7.1 r12) (fun q14 => Option.bind (f_X6_numberOf q14) (fun q17 => some (q7.1, q17)))))))))))
abbrev Y_X11_likely : Sta := (RX11, "likely", cX11_likely, 3, (some .int), 8)
set_option maxRecDepth 100000 in
set_option maxHeartbeats 8000000 in
theorem t_X11_likely {l : Launch} {G : Gh} {M : Mem} {a0 : Nat} {p1 : Int32} {p2 : Int32} {q : Mem × Int32} (h : f_X11_likely M a0 p1 p2 = some q) : Ctr l G yX11_likely Y_X11_likely M [.ref (gh G + a0), .int p1, .int p2] q.1 (some (.int q.2)) := by
  refine Ctr.of (Y := Y_X11_likely) (L := [some (.ref (gh G + a0)), some (.int p1), some (.int p2)]) (t := Option.bind (f_X11_likely M a0 p1 p2) (fun q => some (q.1, some (.int q.2)))) (by decide) rfl rfl (nle rfl) (Lof_in 0 _ rfl) (fun X hG hl => ?_) (by rw [h]; rfl)
  subst hG
  subst hl
  unfold f_X11_likely
  refine s_aload_n (pc := 0) 0 dX11_likely_0 rfl rfl ?_
  refine s_grd (fun o1 => ?_)
  refine s_geto (pc := 1) F_11 8 rfl o1 dX11_likely_1 kf_X11_71 ?_
  refine s_rvB (fun r2 => ?_)
  refine s_iload_n (pc := 4) 1 dX11_likely_4 rfl rfl ?_
  refine s_bind (fun q3 hq4 => ?_)
  have hC5 := t_X6_rankOf (l := xl X) (G := xG X) (M := M) hq4
  refine s_callS (pc := 5) (As := [.int p1]) (st := [.ref (gh (xG X) + r2)]) cl_X6_rankOf wt_X6_rankOf km_X11_111 rfl rfl (nle rfl) (nle rfl) (nle rfl) dX11_likely_5 hC5 ?_
  show S0 X _ M 8 [some (.ref (gh (xG X) + a0)), some (.int p1), some (.int p2)] [.int q3, .ref (gh (xG X) + r2)] _
  refine s_iload_n (pc := 8) 2 dX11_likely_8 rfl rfl ?_
  refine s_grd (fun o6 => ?_)
  refine s_bind (fun q7 hq8 => ?_)
  have hC9 := t_X0_work (l := xl X) (G := xG X) hq8
  refine s_callV (pc := 9) (As := [.int q3, .int p2]) (st := []) (nlt rfl) (q := (RX0, TX0, 9)) rfl rfl o6 cl_X0_work wi_X0_work wl_X0_work km_X11_321 rfl rfl (nle rfl) (nle rfl) (nle rfl) dX11_likely_9 hC9 ?_
  have h10 := hC9.1 X
  have o11 := h10.ok o1
  show S0 X _ q7.1 12 [some (.ref (gh (xG X) + a0)), some (.int p1), some (.int p2)] [.int q7.2] _
  refine s_ifne (pc := 12) 17 dX11_likely_12 rfl ?_ ?_
  · refine s_aload_n (pc := 17) 0 dX11_likely_17 rfl rfl ?_
    refine s_geto (pc := 18) F_11 8 rfl o11 dX11_likely_18 kf_X11_71 ?_
    refine s_rvB (fun r12 => ?_)
    refine s_grd (fun o13 => ?_)
    refine s_bind (fun q14 hq15 => ?_)
    have hC16 := t_X0_likeliest (l := xl X) (G := xG X) hq15
    refine s_callV (pc := 21) (As := []) (st := []) (nlt rfl) (q := (RX0, TX0, 9)) rfl rfl o13 cl_X0_likeliest wi_X0_likeliest wl_X0_likeliest km_X11_330 rfl rfl (nle rfl) (nle rfl) (nle rfl) dX11_likely_21 hC16 ?_
    show S0 X _ q7.1 24 [some (.ref (gh (xG X) + a0)), some (.int p1), some (.int p2)] [.int q14] _
    refine s_bind (fun q17 hq18 => ?_)
    have hC19 := t_X6_numberOf (l := xl X) (G := xG X) (M := q7.1) hq18
    refine s_callS (pc := 24) (As := [.int q14]) (st := []) cl_X6_numberOf wt_X6_numberOf km_X11_146 rfl rfl (nle rfl) (nle rfl) (nle rfl) dX11_likely_24 hC19 ?_
    show S0 X _ q7.1 27 [some (.ref (gh (xG X) + a0)), some (.int p1), some (.int p2)] [.int q17] _
    exact s_iret rfl dX11_likely_27
  · refine s_iconst (pc := 15) (-1) dX11_likely_15 kc_m1 ?_
    exact s_iret rfl dX11_likely_16
set_option maxRecDepth 100000 in
set_option maxHeartbeats 8000000 in
noncomputable def f_X11_odds (M : Mem) (a0 : Nat) (p1 : Int32) (p2 : Int32) (p3 : Int32) : Option (Mem × Int64) :=
  Option.bind (f_X6_rankOf p2) (fun q1 => if q1 = (-1) then (some (M, (-1))) else (grd (okO M 11 a0) (Option.bind (mR M a0 8) (fun r5 => Option.bind (f_X6_rankOf p1) (fun q6 => grd (okO M 0 r5) (Option.bind (f_X0_work M r5 q6 p3) (fun q10 => if q10.2 = 0 then (some (q10.1, (-1))) else (Option.bind (mR q10.1 a0 8) (fun r15 => grd (okO q10.1 0 r15) (Option.bind (mR q10.1 r15 3) (fun r17 => grd (okO q10.1 15 r17) (grd (vp_in q1 (mL q10.1 r17)) (some (q10.1, mJ q10.1 r17 q1.toNatClampNeg))))))))))))))
abbrev Y_X11_odds : Sta := (RX11, "odds", cX11_odds, 5, (some .long), 8)
set_option maxRecDepth 100000 in
set_option maxHeartbeats 8000000 in
theorem t_X11_odds {l : Launch} {G : Gh} {M : Mem} {a0 : Nat} {p1 : Int32} {p2 : Int32} {p3 : Int32} {q : Mem × Int64} (h : f_X11_odds M a0 p1 p2 p3 = some q) : Ctr l G yX11_odds Y_X11_odds M [.ref (gh G + a0), .int p1, .int p2, .int p3] q.1 (some (.long q.2)) := by
  refine Ctr.of (Y := Y_X11_odds) (L := [some (.ref (gh G + a0)), some (.int p1), some (.int p2), some (.int p3), none]) (t := Option.bind (f_X11_odds M a0 p1 p2 p3) (fun q => some (q.1, some (.long q.2)))) (by decide) rfl rfl (nle rfl) (Lof_in 1 _ rfl) (fun X hG hl => ?_) (by rw [h]; rfl)
  subst hG
  subst hl
  unfold f_X11_odds
  refine s_iload_n (pc := 0) 2 dX11_odds_0 rfl rfl ?_
  refine s_bind (fun q1 hq2 => ?_)
  have hC3 := t_X6_rankOf (l := xl X) (G := xG X) (M := M) hq2
  refine s_callS (pc := 1) (As := [.int p2]) (st := []) cl_X6_rankOf wt_X6_rankOf km_X11_111 rfl rfl (nle rfl) (nle rfl) (nle rfl) dX11_odds_1 hC3 ?_
  show S0 X _ M 4 [some (.ref (gh (xG X) + a0)), some (.int p1), some (.int p2), some (.int p3), none] [.int q1] _
  refine s_istore (pc := 4) dX11_odds_4 (nlt rfl) rfl (L' := [some (.ref (gh (xG X) + a0)), some (.int p1), some (.int p2), some (.int p3), some (.int q1)]) rfl ?_
  refine s_iload (pc := 6) dX11_odds_6 rfl ?_
  refine s_iconst (pc := 8) (-1) dX11_odds_8 kc_m1 ?_
  refine s_iceq (pc := 9) 27 dX11_odds_9 rfl ?_ ?_
  · refine s_ldc2 (pc := 27) dX11_odds_27 kl_X11_324 ?_
    exact s_lret rfl dX11_odds_30
  · refine s_aload_n (pc := 12) 0 dX11_odds_12 rfl rfl ?_
    refine s_grd (fun o4 => ?_)
    refine s_geto (pc := 13) F_11 8 rfl o4 dX11_odds_13 kf_X11_71 ?_
    refine s_rvB (fun r5 => ?_)
    refine s_iload_n (pc := 16) 1 dX11_odds_16 rfl rfl ?_
    refine s_bind (fun q6 hq7 => ?_)
    have hC8 := t_X6_rankOf (l := xl X) (G := xG X) (M := M) hq7
    refine s_callS (pc := 17) (As := [.int p1]) (st := [.ref (gh (xG X) + r5)]) cl_X6_rankOf wt_X6_rankOf km_X11_111 rfl rfl (nle rfl) (nle rfl) (nle rfl) dX11_odds_17 hC8 ?_
    show S0 X _ M 20 [some (.ref (gh (xG X) + a0)), some (.int p1), some (.int p2), some (.int p3), some (.int q1)] [.int q6, .ref (gh (xG X) + r5)] _
    refine s_iload_n (pc := 20) 3 dX11_odds_20 rfl rfl ?_
    refine s_grd (fun o9 => ?_)
    refine s_bind (fun q10 hq11 => ?_)
    have hC12 := t_X0_work (l := xl X) (G := xG X) hq11
    refine s_callV (pc := 21) (As := [.int q6, .int p3]) (st := []) (nlt rfl) (q := (RX0, TX0, 9)) rfl rfl o9 cl_X0_work wi_X0_work wl_X0_work km_X11_321 rfl rfl (nle rfl) (nle rfl) (nle rfl) dX11_odds_21 hC12 ?_
    have h13 := hC12.1 X
    have o14 := h13.ok o4
    show S0 X _ q10.1 24 [some (.ref (gh (xG X) + a0)), some (.int p1), some (.int p2), some (.int p3), some (.int q1)] [.int q10.2] _
    refine s_ifne (pc := 24) 31 dX11_odds_24 rfl ?_ ?_
    · refine s_aload_n (pc := 31) 0 dX11_odds_31 rfl rfl ?_
      refine s_geto (pc := 32) F_11 8 rfl o14 dX11_odds_32 kf_X11_71 ?_
      refine s_rvB (fun r15 => ?_)
      refine s_grd (fun o16 => ?_)
      refine s_geto (pc := 35) F_0 3 rfl o16 dX11_odds_35 kf_X11_326 ?_
      refine s_rvB (fun r17 => ?_)
      refine s_iload (pc := 38) dX11_odds_38 rfl ?_
      refine s_grd (fun o18 => ?_)
      refine s_grd (fun i19 => ?_)
      refine s_lald (pc := 40) o18 i19 dX11_odds_40 ?_
      exact s_lret rfl dX11_odds_41
    · refine s_ldc2 (pc := 27) dX11_odds_27 kl_X11_324 ?_
      exact s_lret rfl dX11_odds_30
set_option maxRecDepth 100000 in
set_option maxHeartbeats 8000000 in
noncomputable def f_X11_steps (M : Mem) (a0 : Nat) (p1 : Int32) (p2 : Int32) : Option (Mem × Int32) :=
  Option.bind (f_X6_rankOf p1) (fun q1 => Option.bind (f_X6_rankOf p2) (fun q4 => if q1 = (-1) then (some (M, (-1))) else (if q4 = (-1) then (some (M, (-1))) else (grd (okO M 11 a0) (Option.bind (mR M a0 6) (fun r8 => Option.bind (mR M a0 0) (fun r9 => grd (okO M 10 r9) (grd (okO M 4 r8) (Option.bind (f_X4_stepsFrom M r8 q1 q4 (mI M r9 11)) (fun q12 => some (q12.1, q12.2)))))))))))
abbrev Y_X11_steps : Sta := (RX11, "steps", cX11_steps, 5, (some .int), 8)
set_option maxRecDepth 100000 in
set_option maxHeartbeats 8000000 in
theorem t_X11_steps {l : Launch} {G : Gh} {M : Mem} {a0 : Nat} {p1 : Int32} {p2 : Int32} {q : Mem × Int32} (h : f_X11_steps M a0 p1 p2 = some q) : Ctr l G yX11_steps Y_X11_steps M [.ref (gh G + a0), .int p1, .int p2] q.1 (some (.int q.2)) := by
  refine Ctr.of (Y := Y_X11_steps) (L := [some (.ref (gh G + a0)), some (.int p1), some (.int p2), none, none]) (t := Option.bind (f_X11_steps M a0 p1 p2) (fun q => some (q.1, some (.int q.2)))) (by decide) rfl rfl (nle rfl) (Lof_in 2 _ rfl) (fun X hG hl => ?_) (by rw [h]; rfl)
  subst hG
  subst hl
  unfold f_X11_steps
  refine s_iload_n (pc := 0) 1 dX11_steps_0 rfl rfl ?_
  refine s_bind (fun q1 hq2 => ?_)
  have hC3 := t_X6_rankOf (l := xl X) (G := xG X) (M := M) hq2
  refine s_callS (pc := 1) (As := [.int p1]) (st := []) cl_X6_rankOf wt_X6_rankOf km_X11_111 rfl rfl (nle rfl) (nle rfl) (nle rfl) dX11_steps_1 hC3 ?_
  show S0 X _ M 4 [some (.ref (gh (xG X) + a0)), some (.int p1), some (.int p2), none, none] [.int q1] _
  refine s_istore_n (pc := 4) 3 dX11_steps_4 rfl (nlt rfl) rfl (L' := [some (.ref (gh (xG X) + a0)), some (.int p1), some (.int p2), some (.int q1), none]) rfl ?_
  refine s_iload_n (pc := 5) 2 dX11_steps_5 rfl rfl ?_
  refine s_bind (fun q4 hq5 => ?_)
  have hC6 := t_X6_rankOf (l := xl X) (G := xG X) (M := M) hq5
  refine s_callS (pc := 6) (As := [.int p2]) (st := []) cl_X6_rankOf wt_X6_rankOf km_X11_111 rfl rfl (nle rfl) (nle rfl) (nle rfl) dX11_steps_6 hC6 ?_
  show S0 X _ M 9 [some (.ref (gh (xG X) + a0)), some (.int p1), some (.int p2), some (.int q1), none] [.int q4] _
  refine s_istore (pc := 9) dX11_steps_9 (nlt rfl) rfl (L' := [some (.ref (gh (xG X) + a0)), some (.int p1), some (.int p2), some (.int q1), some (.int q4)]) rfl ?_
  refine s_iload_n (pc := 11) 3 dX11_steps_11 rfl rfl ?_
  refine s_iconst (pc := 12) (-1) dX11_steps_12 kc_m1 ?_
  refine s_iceq (pc := 13) 22 dX11_steps_13 rfl ?_ ?_
  · refine s_iconst (pc := 22) (-1) dX11_steps_22 kc_m1 ?_
    refine s_goto (pc := 23) 43 dX11_steps_23 rfl ?_
    exact s_iret rfl dX11_steps_43
  · refine s_iload (pc := 16) dX11_steps_16 rfl ?_
    refine s_iconst (pc := 18) (-1) dX11_steps_18 kc_m1 ?_
    refine s_icne (pc := 19) 26 dX11_steps_19 rfl ?_ ?_
    · refine s_aload_n (pc := 26) 0 dX11_steps_26 rfl rfl ?_
      refine s_grd (fun o7 => ?_)
      refine s_geto (pc := 27) F_11 6 rfl o7 dX11_steps_27 kf_X11_55 ?_
      refine s_rvB (fun r8 => ?_)
      refine s_iload_n (pc := 30) 3 dX11_steps_30 rfl rfl ?_
      refine s_iload (pc := 31) dX11_steps_31 rfl ?_
      refine s_aload_n (pc := 33) 0 dX11_steps_33 rfl rfl ?_
      refine s_geto (pc := 34) F_11 0 rfl o7 dX11_steps_34 kf_X11_10 ?_
      refine s_rvB (fun r9 => ?_)
      refine s_grd (fun o10 => ?_)
      refine s_getiN (pc := 37) F_10 11 rfl o10 dX11_steps_37 (List.mem_of_getElem? (i := 14) rfl) ?_
      refine s_grd (fun o11 => ?_)
      refine s_bind (fun q12 hq13 => ?_)
      have hC14 := t_X4_stepsFrom (l := xl X) (G := xG X) hq13
      refine s_callV (pc := 40) (As := [.int q1, .int q4, .int (mI M r9 11)]) (st := []) (nlt rfl) (q := (RX4, TX4, 10)) rfl rfl o11 cl_X4_stepsFrom wi_X4_stepsFrom wl_X4_stepsFrom km_X11_155 rfl rfl (nle rfl) (nle rfl) (nle rfl) dX11_steps_40 hC14 ?_
      have h15 := hC14.1 X
      have o16 := h15.ok o7
      show S0 X _ q12.1 43 [some (.ref (gh (xG X) + a0)), some (.int p1), some (.int p2), some (.int q1), some (.int q4)] [.int q12.2] _
      exact s_iret rfl dX11_steps_43
    · refine s_iconst (pc := 22) (-1) dX11_steps_22 kc_m1 ?_
      refine s_goto (pc := 23) 43 dX11_steps_23 rfl ?_
      exact s_iret rfl dX11_steps_43
set_option maxRecDepth 100000 in
set_option maxHeartbeats 8000000 in
noncomputable def f_X11_way (M : Mem) (a0 : Nat) (p1 : Int32) (p2 : Int32) (p3 : Int32) : Option (Mem × Int32) :=
  Option.bind (f_X6_rankOf p1) (fun q1 => Option.bind (f_X6_rankOf p2) (fun q4 => if q1 = (-1) then (some (M, (-1))) else (if q4 = (-1) then (some (M, (-1))) else (if 0 ≤ p3 then (grd (okO M 11 a0) (Option.bind (mR M a0 6) (fun r8 => Option.bind (mR M a0 0) (fun r9 => grd (okO M 10 r9) (grd (okO M 4 r8) (Option.bind (f_X4_stepsFrom M r8 q1 q4 (mI M r9 11)) (fun q12 => if q12.2 = (-1) then (some (q12.1, (-1))) else (if p3 ≤ q12.2 then (Option.bind (mR q12.1 a0 6) (fun r17 => Option.bind (mR q12.1 a0 0) (fun r18 => grd (okO q12.1 10 r18) (grd (okO q12.1 4 r17) (Option.bind (f_X4_tableTo q12.1 r17 q4 (mI q12.1 r18 11)) (fun q21 => Option.bind (loopO (σ := Mem × Int32 × Int32 × Int32) (ρ := Mem × Int32) (fun s26 => if p3 ≤ s26.2.2.2 then (some (.inr (s26.1, s26.2.1))) else (bv (s26.2.2.1 + (-1) : Int32) (fun x35 => Option.bind (mR s26.1 a0 5) (fun r36 => grd (okO s26.1 1 r36) (Option.bind (f_X1_listAll s26.1 r36 s26.2.1) (fun q38 => Option.bind (mR q38 a0 5) (fun r43 => grd (okO q38 1 r43) (Option.bind (f_X1_lowestMade q38 r43 (-1) q21.2 x35) (fun q45 => bv (s26.2.2.2 + 1 : Int32) (fun x48 => some (.inl (q38, q45, x35, x48)))))))))))) (q21.1, q1, q12.2, 0)) (fun (x33 : Mem × Int32) => Option.bind (f_X6_numberOf x33.2) (fun q49 => some (x33.1, q49))))))))) else (some (q12.1, (-1))))))))))) else (some (M, (-1)))))))
abbrev Y_X11_way : Sta := (RX11, "way", cX11_way, 9, (some .int), 8)
set_option maxRecDepth 100000 in
set_option maxHeartbeats 8000000 in
theorem t_X11_way {l : Launch} {G : Gh} {M : Mem} {a0 : Nat} {p1 : Int32} {p2 : Int32} {p3 : Int32} {q : Mem × Int32} (h : f_X11_way M a0 p1 p2 p3 = some q) : Ctr l G yX11_way Y_X11_way M [.ref (gh G + a0), .int p1, .int p2, .int p3] q.1 (some (.int q.2)) := by
  refine Ctr.of (Y := Y_X11_way) (L := [some (.ref (gh G + a0)), some (.int p1), some (.int p2), some (.int p3), none, none, none, none, none]) (t := Option.bind (f_X11_way M a0 p1 p2 p3) (fun q => some (q.1, some (.int q.2)))) (by decide) rfl rfl (nle rfl) (Lof_in 5 _ rfl) (fun X hG hl => ?_) (by rw [h]; rfl)
  subst hG
  subst hl
  unfold f_X11_way
  refine s_iload_n (pc := 0) 1 dX11_way_0 rfl rfl ?_
  refine s_bind (fun q1 hq2 => ?_)
  have hC3 := t_X6_rankOf (l := xl X) (G := xG X) (M := M) hq2
  refine s_callS (pc := 1) (As := [.int p1]) (st := []) cl_X6_rankOf wt_X6_rankOf km_X11_111 rfl rfl (nle rfl) (nle rfl) (nle rfl) dX11_way_1 hC3 ?_
  show S0 X _ M 4 [some (.ref (gh (xG X) + a0)), some (.int p1), some (.int p2), some (.int p3), none, none, none, none, none] [.int q1] _
  refine s_istore (pc := 4) dX11_way_4 (nlt rfl) rfl (L' := [some (.ref (gh (xG X) + a0)), some (.int p1), some (.int p2), some (.int p3), some (.int q1), none, none, none, none]) rfl ?_
  refine s_iload_n (pc := 6) 2 dX11_way_6 rfl rfl ?_
  refine s_bind (fun q4 hq5 => ?_)
  have hC6 := t_X6_rankOf (l := xl X) (G := xG X) (M := M) hq5
  refine s_callS (pc := 7) (As := [.int p2]) (st := []) cl_X6_rankOf wt_X6_rankOf km_X11_111 rfl rfl (nle rfl) (nle rfl) (nle rfl) dX11_way_7 hC6 ?_
  show S0 X _ M 10 [some (.ref (gh (xG X) + a0)), some (.int p1), some (.int p2), some (.int p3), some (.int q1), none, none, none, none] [.int q4] _
  refine s_istore (pc := 10) dX11_way_10 (nlt rfl) rfl (L' := [some (.ref (gh (xG X) + a0)), some (.int p1), some (.int p2), some (.int p3), some (.int q1), some (.int q4), none, none, none]) rfl ?_
  refine s_iload (pc := 12) dX11_way_12 rfl ?_
  refine s_iconst (pc := 14) (-1) dX11_way_14 kc_m1 ?_
  refine s_iceq (pc := 15) 28 dX11_way_15 rfl ?_ ?_
  · refine s_iconst (pc := 28) (-1) dX11_way_28 kc_m1 ?_
    exact s_iret rfl dX11_way_29
  · refine s_iload (pc := 18) dX11_way_18 rfl ?_
    refine s_iconst (pc := 20) (-1) dX11_way_20 kc_m1 ?_
    refine s_iceq (pc := 21) 28 dX11_way_21 rfl ?_ ?_
    · refine s_iconst (pc := 28) (-1) dX11_way_28 kc_m1 ?_
      exact s_iret rfl dX11_way_29
    · refine s_iload_n (pc := 24) 3 dX11_way_24 rfl rfl ?_
      refine s_ifge (pc := 25) 30 dX11_way_25 rfl ?_ ?_
      · refine s_aload_n (pc := 30) 0 dX11_way_30 rfl rfl ?_
        refine s_grd (fun o7 => ?_)
        refine s_geto (pc := 31) F_11 6 rfl o7 dX11_way_31 kf_X11_55 ?_
        refine s_rvB (fun r8 => ?_)
        refine s_iload (pc := 34) dX11_way_34 rfl ?_
        refine s_iload (pc := 36) dX11_way_36 rfl ?_
        refine s_aload_n (pc := 38) 0 dX11_way_38 rfl rfl ?_
        refine s_geto (pc := 39) F_11 0 rfl o7 dX11_way_39 kf_X11_10 ?_
        refine s_rvB (fun r9 => ?_)
        refine s_grd (fun o10 => ?_)
        refine s_getiN (pc := 42) F_10 11 rfl o10 dX11_way_42 (List.mem_of_getElem? (i := 14) rfl) ?_
        refine s_grd (fun o11 => ?_)
        refine s_bind (fun q12 hq13 => ?_)
        have hC14 := t_X4_stepsFrom (l := xl X) (G := xG X) hq13
        refine s_callV (pc := 45) (As := [.int q1, .int q4, .int (mI M r9 11)]) (st := []) (nlt rfl) (q := (RX4, TX4, 10)) rfl rfl o11 cl_X4_stepsFrom wi_X4_stepsFrom wl_X4_stepsFrom km_X11_155 rfl rfl (nle rfl) (nle rfl) (nle rfl) dX11_way_45 hC14 ?_
        have h15 := hC14.1 X
        have o16 := h15.ok o7
        show S0 X _ q12.1 48 [some (.ref (gh (xG X) + a0)), some (.int p1), some (.int p2), some (.int p3), some (.int q1), some (.int q4), none, none, none] [.int q12.2] _
        refine s_istore (pc := 48) dX11_way_48 (nlt rfl) rfl (L' := [some (.ref (gh (xG X) + a0)), some (.int p1), some (.int p2), some (.int p3), some (.int q1), some (.int q4), some (.int q12.2), none, none]) rfl ?_
        refine s_iload (pc := 50) dX11_way_50 rfl ?_
        refine s_iconst (pc := 52) (-1) dX11_way_52 kc_m1 ?_
        refine s_iceq (pc := 53) 62 dX11_way_53 rfl ?_ ?_
        · refine s_iconst (pc := 62) (-1) dX11_way_62 kc_m1 ?_
          exact s_iret rfl dX11_way_63
        · refine s_iload_n (pc := 56) 3 dX11_way_56 rfl rfl ?_
          refine s_iload (pc := 57) dX11_way_57 rfl ?_
          refine s_icle (pc := 59) 64 dX11_way_59 rfl ?_ ?_
          · refine s_aload_n (pc := 64) 0 dX11_way_64 rfl rfl ?_
            refine s_geto (pc := 65) F_11 6 rfl o16 dX11_way_65 kf_X11_55 ?_
            refine s_rvB (fun r17 => ?_)
            refine s_iload (pc := 68) dX11_way_68 rfl ?_
            refine s_aload_n (pc := 70) 0 dX11_way_70 rfl rfl ?_
            refine s_geto (pc := 71) F_11 0 rfl o16 dX11_way_71 kf_X11_10 ?_
            refine s_rvB (fun r18 => ?_)
            refine s_grd (fun o19 => ?_)
            refine s_getiN (pc := 74) F_10 11 rfl o19 dX11_way_74 (List.mem_of_getElem? (i := 14) rfl) ?_
            refine s_grd (fun o20 => ?_)
            refine s_bind (fun q21 hq22 => ?_)
            have hC23 := t_X4_tableTo (l := xl X) (G := xG X) hq22
            refine s_callV (pc := 77) (As := [.int q4, .int (mI q12.1 r18 11)]) (st := []) (nlt rfl) (q := (RX4, TX4, 10)) rfl rfl o20 cl_X4_tableTo wi_X4_tableTo wl_X4_tableTo km_X11_252 rfl rfl (nle rfl) (nle rfl) (nle rfl) dX11_way_77 hC23 ?_
            have h24 := hC23.1 X
            have o25 := h24.ok o16
            show S0 X _ q21.1 80 [some (.ref (gh (xG X) + a0)), some (.int p1), some (.int p2), some (.int p3), some (.int q1), some (.int q4), some (.int q12.2), none, none] [.ref (gh (xG X) + q21.2)] _
            refine s_astore (pc := 80) dX11_way_80 (nlt rfl) rfl (L' := [some (.ref (gh (xG X) + a0)), some (.int p1), some (.int p2), some (.int p3), some (.int q1), some (.int q4), some (.int q12.2), some (.ref (gh (xG X) + q21.2)), none]) rfl ?_
            refine s_iconst (pc := 82) 0 dX11_way_82 kc_0 ?_
            refine s_istore (pc := 83) dX11_way_83 (nlt rfl) rfl (L' := [some (.ref (gh (xG X) + a0)), some (.int p1), some (.int p2), some (.int p3), some (.int q1), some (.int q4), some (.int q12.2), some (.ref (gh (xG X) + q21.2)), some (.int 0)]) rfl ?_
            refine s_drop (L' := [some (.ref (gh (xG X) + a0)), none, none, some (.int p3), some (.int q1), none, some (.int q12.2), some (.ref (gh (xG X) + q21.2)), some (.int 0)]) ?_ (And.intro rfl (And.intro rfl (And.intro rfl (And.intro rfl (And.intro rfl (And.intro rfl trivial))))))
            refine s_loop1 q21.1 (fun s26 : Mem × Int32 × Int32 × Int32 => s26.1) (fun s26 : Mem × Int32 × Int32 × Int32 => [some (.ref (gh (xG X) + a0)), none, none, some (.int p3), some (.int s26.2.1), none, some (.int s26.2.2.1), some (.ref (gh (xG X) + q21.2)), some (.int s26.2.2.2)]) (fun x33 : Mem × Int32 => x33.1) 123 (fun x33 : Mem × Int32 => [none, none, none, none, some (.int x33.2), none, none, none, none]) (fun x33 hx34 => ?_) (fun T28 R30 hT29 hR31 s26 hs27 => ?_) (q21.1, q1, q12.2, 0) Le.rf
            · show S0 X _ x33.1 123 [none, none, none, none, some (.int x33.2), none, none, none, none] [] _
              refine s_iload (pc := 123) dX11_way_123 rfl ?_
              refine s_bind (fun q49 hq50 => ?_)
              have hC51 := t_X6_numberOf (l := xl X) (G := xG X) (M := x33.1) hq50
              refine s_callS (pc := 125) (As := [.int x33.2]) (st := []) cl_X6_numberOf wt_X6_numberOf km_X11_146 rfl rfl (nle rfl) (nle rfl) (nle rfl) dX11_way_125 hC51 ?_
              show S0 X _ x33.1 128 [none, none, none, none, some (.int x33.2), none, none, none, none] [.int q49] _
              exact s_iret rfl dX11_way_128
            · show S0 X _ s26.1 85 [some (.ref (gh (xG X) + a0)), none, none, some (.int p3), some (.int s26.2.1), none, some (.int s26.2.2.1), some (.ref (gh (xG X) + q21.2)), some (.int s26.2.2.2)] [] _
              have o32 := hs27.ok o25
              refine s_iload (pc := 85) dX11_way_85 rfl ?_
              refine s_iload_n (pc := 87) 3 dX11_way_87 rfl rfl ?_
              refine s_icge (pc := 88) 123 dX11_way_88 rfl ?_ ?_
              · exact s_drop (hR31 (s26.1, s26.2.1) hs27) (And.intro rfl trivial)
              · refine s_iinc (pc := 91) dX11_way_91 rfl (v := s26.2.2.1 + (-1)) (congrArg (fun z : Int32 => s26.2.2.1 + z) kc_m1) (nlt rfl) rfl (L' := [some (.ref (gh (xG X) + a0)), none, none, some (.int p3), some (.int s26.2.1), none, some (.int (s26.2.2.1 + (-1))), some (.ref (gh (xG X) + q21.2)), some (.int s26.2.2.2)]) rfl ?_
                refine s_bv (fun x35 : Int32 => [some (.ref (gh (xG X) + a0)), none, none, some (.int p3), some (.int s26.2.1), none, some (.int x35), some (.ref (gh (xG X) + q21.2)), some (.int s26.2.2.2)]) (fun x35 => ?_) rfl
                refine s_aload_n (pc := 94) 0 dX11_way_94 rfl rfl ?_
                refine s_geto (pc := 95) F_11 5 rfl o32 dX11_way_95 kf_X11_48 ?_
                refine s_rvB (fun r36 => ?_)
                refine s_iload (pc := 98) dX11_way_98 rfl ?_
                refine s_grd (fun o37 => ?_)
                refine s_bind (fun q38 hq39 => ?_)
                have hC40 := t_X1_listAll (l := xl X) (G := xG X) hq39
                refine s_callV (pc := 100) (As := [.int s26.2.1]) (st := []) (nlt rfl) (q := (RX1, TX1, 8)) rfl rfl o37 cl_X1_listAll wi_X1_listAll wl_X1_listAll km_X11_245 rfl rfl (nle rfl) (nle rfl) (nle rfl) dX11_way_100 hC40 ?_
                have h41 := hC40.1 X
                have o42 := h41.ok o32
                show S0 X _ q38 103 [some (.ref (gh (xG X) + a0)), none, none, some (.int p3), some (.int s26.2.1), none, some (.int x35), some (.ref (gh (xG X) + q21.2)), some (.int s26.2.2.2)] [] _
                refine s_aload_n (pc := 103) 0 dX11_way_103 rfl rfl ?_
                refine s_geto (pc := 104) F_11 5 rfl o42 dX11_way_104 kf_X11_48 ?_
                refine s_rvB (fun r43 => ?_)
                refine s_iconst (pc := 107) (-1) dX11_way_107 kc_m1 ?_
                refine s_aload (pc := 108) dX11_way_108 rfl ?_
                refine s_iload (pc := 110) dX11_way_110 rfl ?_
                refine s_grd (fun o44 => ?_)
                refine s_bind (fun q45 hq46 => ?_)
                have hC47 := t_X1_lowestMade (l := xl X) (G := xG X) hq46
                refine s_callV (pc := 112) (As := [.int (-1), .ref (gh (xG X) + q21.2), .int x35]) (st := []) (nlt rfl) (q := (RX1, TX1, 8)) rfl rfl o44 cl_X1_lowestMade wi_X1_lowestMade wl_X1_lowestMade km_X11_256 rfl rfl (nle rfl) (nle rfl) (nle rfl) dX11_way_112 hC47 ?_
                show S0 X _ q38 115 [some (.ref (gh (xG X) + a0)), none, none, some (.int p3), some (.int s26.2.1), none, some (.int x35), some (.ref (gh (xG X) + q21.2)), some (.int s26.2.2.2)] [.int q45] _
                refine s_istore (pc := 115) dX11_way_115 (nlt rfl) rfl (L' := [some (.ref (gh (xG X) + a0)), none, none, some (.int p3), some (.int q45), none, some (.int x35), some (.ref (gh (xG X) + q21.2)), some (.int s26.2.2.2)]) rfl ?_
                refine s_iinc (pc := 117) dX11_way_117 rfl (v := s26.2.2.2 + 1) (congrArg (fun z : Int32 => s26.2.2.2 + z) kc_1) (nlt rfl) rfl (L' := [some (.ref (gh (xG X) + a0)), none, none, some (.int p3), some (.int q45), none, some (.int x35), some (.ref (gh (xG X) + q21.2)), some (.int (s26.2.2.2 + 1))]) rfl ?_
                refine s_bv (fun x48 : Int32 => [some (.ref (gh (xG X) + a0)), none, none, some (.int p3), some (.int q45), none, some (.int x35), some (.ref (gh (xG X) + q21.2)), some (.int x48)]) (fun x48 => ?_) rfl
                refine s_goto (pc := 120) 85 dX11_way_120 rfl ?_
                exact s_drop (hT29 (q38, q45, x35, x48) (hs27.tr h41)) (And.intro rfl (And.intro rfl (And.intro rfl (And.intro rfl (And.intro rfl (And.intro rfl trivial))))))
          · refine s_iconst (pc := 62) (-1) dX11_way_62 kc_m1 ?_
            exact s_iret rfl dX11_way_63
      · refine s_iconst (pc := 28) (-1) dX11_way_28 kc_m1 ?_
        exact s_iret rfl dX11_way_29
set_option maxRecDepth 100000 in
set_option maxHeartbeats 8000000 in
noncomputable def f_X5_search (M : Mem) (a0 : Nat) : Option Mem :=
  grd (okO M 5 a0) (bv (wI M a0 11 0) (fun M2 => Option.bind (f_X5_workFewest M2 a0) (fun q6 => Option.bind (f_X5_workFloor q6 a0) (fun q11 => Option.bind (mR q11 a0 4) (fun r16 => grd (okO q11 14 r16) (grd (vp_in ((sl 1 (mI q11 a0 7)) - 1) (mL q11 r16)) (bv (wI q11 a0 10 (mI q11 r16 ((sl 1 (mI q11 a0 7)) - 1).toNatClampNeg)) (fun M19 => if 1000000 ≤ (mI M19 a0 10) then (some M19) else (Option.bind (f_X5_seek 100 M19 a0 0 (-1) 0) (fun q23 => some q23))))))))))
abbrev Y_X5_search : Sta := (RX5, "search", cX5_search, 1, none, 103)
set_option maxRecDepth 100000 in
set_option maxHeartbeats 8000000 in
theorem t_X5_search {l : Launch} {G : Gh} {M : Mem} {a0 : Nat} {q : Mem} (h : f_X5_search M a0 = some q) : Ctr l G yX5_search Y_X5_search M [.ref (gh G + a0)] q (none) := by
  refine Ctr.of (Y := Y_X5_search) (L := [some (.ref (gh G + a0))]) (t := Option.bind (f_X5_search M a0) (fun q => some (q, (none : Option Value)))) (by decide) rfl rfl (nle rfl) (Lof_in 0 _ rfl) (fun X hG hl => ?_) (by rw [h]; rfl)
  subst hG
  subst hl
  unfold f_X5_search
  refine s_aload_n (pc := 0) 0 dX5_search_0 rfl rfl ?_
  refine s_iconst (pc := 1) 0 dX5_search_1 kc_0 ?_
  refine s_grd (fun o1 => ?_)
  refine s_puti (pc := 2) F_5 11 rfl o1 rfl rfl rfl dX5_search_2 kf_X5_48 (fun M2 hM3 => ?_)
  have h4 := le_wI hM3
  have o5 := h4.ok o1
  refine s_aload_n (pc := 5) 0 dX5_search_5 rfl rfl ?_
  refine s_bind (fun q6 hq7 => ?_)
  have hC8 := t_X5_workFewest (l := xl X) (G := xG X) hq7
  refine s_callV (pc := 6) (As := []) (st := []) (nlt rfl) (q := (RX5, TX5, 12)) rfl rfl o5 cl_X5_workFewest wi_X5_workFewest wl_X5_workFewest km_X5_51 rfl rfl (nle rfl) (nle rfl) (nle rfl) dX5_search_6 hC8 ?_
  have h9 := hC8.1 X
  have o10 := h9.ok o5
  show S0 X _ q6 9 [some (.ref (gh (xG X) + a0))] [] _
  refine s_aload_n (pc := 9) 0 dX5_search_9 rfl rfl ?_
  refine s_bind (fun q11 hq12 => ?_)
  have hC13 := t_X5_workFloor (l := xl X) (G := xG X) hq12
  refine s_callV (pc := 10) (As := []) (st := []) (nlt rfl) (q := (RX5, TX5, 12)) rfl rfl o10 cl_X5_workFloor wi_X5_workFloor wl_X5_workFloor km_X5_54 rfl rfl (nle rfl) (nle rfl) (nle rfl) dX5_search_10 hC13 ?_
  have h14 := hC13.1 X
  have o15 := h14.ok o10
  show S0 X _ q11 13 [some (.ref (gh (xG X) + a0))] [] _
  refine s_aload_n (pc := 13) 0 dX5_search_13 rfl rfl ?_
  refine s_aload_n (pc := 14) 0 dX5_search_14 rfl rfl ?_
  refine s_geto (pc := 15) F_5 4 rfl o15 dX5_search_15 kf_X5_24 ?_
  refine s_rvB (fun r16 => ?_)
  refine s_iconst (pc := 18) 1 dX5_search_18 kc_1 ?_
  refine s_aload_n (pc := 19) 0 dX5_search_19 rfl rfl ?_
  refine s_geti (pc := 20) F_5 7 rfl o15 dX5_search_20 kf_X5_40 ?_
  refine s_ishl (pc := 23) dX5_search_23 ?_
  refine s_iconst (pc := 24) 1 dX5_search_24 kc_1 ?_
  refine s_isub (pc := 25) dX5_search_25 ?_
  refine s_grd (fun o17 => ?_)
  refine s_grd (fun i18 => ?_)
  refine s_iald (pc := 26) o17 i18 dX5_search_26 ?_
  refine s_puti (pc := 27) F_5 10 rfl o15 rfl rfl rfl dX5_search_27 kf_X5_57 (fun M19 hM20 => ?_)
  have h21 := le_wI hM20
  have o22 := h21.ok o15
  refine s_aload_n (pc := 30) 0 dX5_search_30 rfl rfl ?_
  refine s_geti (pc := 31) F_5 10 rfl o22 dX5_search_31 kf_X5_57 ?_
  refine s_ldc (pc := 34) dX5_search_34 ki_X5_43 ?_
  refine s_icge (pc := 36) 46 dX5_search_36 rfl ?_ ?_
  · exact s_vret rfl dX5_search_46
  · refine s_aload_n (pc := 39) 0 dX5_search_39 rfl rfl ?_
    refine s_iconst (pc := 40) 0 dX5_search_40 kc_0 ?_
    refine s_iconst (pc := 41) (-1) dX5_search_41 kc_m1 ?_
    refine s_iconst (pc := 42) 0 dX5_search_42 kc_0 ?_
    refine s_bind (fun q23 hq24 => ?_)
    have hC25 := tf_X5_seek (l := xl X) (G := xG X) hq24
    refine s_callV (pc := 43) (As := [.int 0, .int (-1), .int 0]) (st := []) (nlt rfl) (q := (RX5, TX5, 12)) rfl rfl o22 cl_X5_seek wi_X5_seek wl_X5_seek km_X5_60 rfl rfl (nle rfl) (nle rfl) (nle rfl) dX5_search_43 hC25 ?_
    have h26 := hC25.1 X
    have o27 := h26.ok o22
    show S0 X _ q23 46 [some (.ref (gh (xG X) + a0))] [] _
    exact s_vret rfl dX5_search_46
set_option maxRecDepth 100000 in
set_option maxHeartbeats 8000000 in
noncomputable def f_X11_lines (M : Mem) (a0 : Nat) (p1 : Int32) (p2 : Int32) : Option (Mem × Int32) :=
  grd (okO M 11 a0) (Option.bind (mR M a0 0) (fun r2 => grd (okO M 10 r2) (Option.bind (f_X10_toldOf M r2 p1) (fun q4 => Option.bind (f_J6_bitCount_0f7a4 q4) (fun q7 => if q7 = 0 then (some (M, (-1))) else (if 6 < q7 then (some (M, (-1))) else (if p2 < 0 then (some (M, (-1))) else (if p2 ≤ (1 + q7) then (Option.bind (mR M a0 7) (fun r10 => Option.bind (mR M a0 0) (fun r11 => grd (okO M 10 r11) (grd (okO M 5 r10) (Option.bind (f_X5_isOf M r10 q4 (mI M r11 14)) (fun q14 => bv (fun (s18 : Mem) => Option.bind (mR s18 a0 7) (fun r22 => grd (okO s18 5 r22) (if (mI s18 r22 11) = 0 then (some (s18, (-1))) else (if 2 ≤ p2 then (Option.bind (mR s18 a0 7) (fun r24 => grd (okO s18 5 r24) (Option.bind (f_X5_bestMother s18 r24 (p2 - 2)) (fun q26 => some (s18, q26))))) else (if p2 = 0 then (Option.bind (mR s18 a0 7) (fun r31 => grd (okO s18 5 r31) (some (s18, mI s18 r31 10)))) else (Option.bind (mR s18 a0 7) (fun r29 => grd (okO s18 5 r29) (some (s18, mI s18 r29 11))))))))) (fun j17 => if q14 = 0 then (Option.bind (mR M a0 7) (fun r33 => Option.bind (mR M a0 0) (fun r34 => grd (okO M 10 r34) (grd (okO M 5 r33) (Option.bind (f_X5_take M r33 q4 (mI M r34 14)) (fun q37 => Option.bind (loopO (σ := Mem × Int32) (ρ := Mem) (fun s42 => if (q7 * q7) ≤ s42.2 then (some (.inr s42.1)) else (Option.bind (mR s42.1 a0 0) (fun r51 => grd (okO s42.1 10 r51) (Option.bind (mR s42.1 r51 5) (fun r53 => Option.bind (mR s42.1 a0 7) (fun r54 => grd (¬ q7 = 0) (grd (okO s42.1 5 r54) (Option.bind (f_X5_houseAt s42.1 r54 (ir s42.2 q7)) (fun q57 => grd (okO s42.1 14 r53) (grd (vp_in q57 (mL s42.1 r53)) (bv (mI s42.1 r53 q57.toNatClampNeg : Int32) (fun x62 => Option.bind (mR s42.1 a0 0) (fun r63 => grd (okO s42.1 10 r63) (Option.bind (mR s42.1 r63 5) (fun r65 => Option.bind (mR s42.1 a0 7) (fun r66 => grd (¬ q7 = 0) (grd (okO s42.1 5 r66) (Option.bind (f_X5_houseAt s42.1 r66 (s42.2 / q7)) (fun q69 => grd (okO s42.1 14 r65) (grd (vp_in q69 (mL s42.1 r65)) (bv (mI s42.1 r65 q69.toNatClampNeg : Int32) (fun x74 => Option.bind (mR s42.1 a0 7) (fun r75 => grd (¬ q7 = 0) (grd (¬ q7 = 0) (Option.bind (mR s42.1 a0 6) (fun r78 => Option.bind (mR s42.1 a0 0) (fun r79 => grd (okO s42.1 10 r79) (grd (okO s42.1 4 r78) (Option.bind (f_X4_stepsFrom s42.1 r78 x62 x74 (mI s42.1 r79 11)) (fun q82 => grd (okO q82.1 5 r75) (Option.bind (f_X5_setSteps q82.1 r75 (ir s42.2 q7) (s42.2 / q7) q82.2) (fun q88 => bv (s42.2 + 1 : Int32) (fun x93 => some (.inl (q88, x93))))))))))))))))))))))))))))))))))) (q37, 0)) (fun (x49 : Mem) => Option.bind (mR x49 a0 7) (fun r95 => grd (okO x49 5 r95) (Option.bind (f_X5_search x49 r95) (fun q97 => j17 q97)))))))))) else (j17 M)))))))) else (some (M, (-1)))))))))))
abbrev Y_X11_lines : Sta := (RX11, "lines", cX11_lines, 8, (some .int), 104)
set_option maxRecDepth 100000 in
set_option maxHeartbeats 8000000 in
theorem t_X11_lines {l : Launch} {G : Gh} {M : Mem} {a0 : Nat} {p1 : Int32} {p2 : Int32} {q : Mem × Int32} (h : f_X11_lines M a0 p1 p2 = some q) : Ctr l G yX11_lines Y_X11_lines M [.ref (gh G + a0), .int p1, .int p2] q.1 (some (.int q.2)) := by
  refine Ctr.of (Y := Y_X11_lines) (L := [some (.ref (gh G + a0)), some (.int p1), some (.int p2), none, none, none, none, none]) (t := Option.bind (f_X11_lines M a0 p1 p2) (fun q => some (q.1, some (.int q.2)))) (by decide) rfl rfl (nle rfl) (Lof_in 5 _ rfl) (fun X hG hl => ?_) (by rw [h]; rfl)
  subst hG
  subst hl
  unfold f_X11_lines
  refine s_aload_n (pc := 0) 0 dX11_lines_0 rfl rfl ?_
  refine s_grd (fun o1 => ?_)
  refine s_geto (pc := 1) F_11 0 rfl o1 dX11_lines_1 kf_X11_10 ?_
  refine s_rvB (fun r2 => ?_)
  refine s_iload_n (pc := 4) 1 dX11_lines_4 rfl rfl ?_
  refine s_grd (fun o3 => ?_)
  refine s_bind (fun q4 hq5 => ?_)
  have hC6 := t_X10_toldOf (l := xl X) (G := xG X) hq5
  refine s_callV (pc := 5) (As := [.int p1]) (st := []) (nlt rfl) (q := (RX10, TX10, 15)) rfl rfl o3 cl_X10_toldOf wi_X10_toldOf wl_X10_toldOf km_X11_276 rfl rfl (nle rfl) (nle rfl) (nle rfl) dX11_lines_5 hC6 ?_
  show S0 X _ M 8 [some (.ref (gh (xG X) + a0)), some (.int p1), some (.int p2), none, none, none, none, none] [.int q4] _
  refine s_istore_n (pc := 8) 3 dX11_lines_8 rfl (nlt rfl) rfl (L' := [some (.ref (gh (xG X) + a0)), some (.int p1), some (.int p2), some (.int q4), none, none, none, none]) rfl ?_
  refine s_iload_n (pc := 9) 3 dX11_lines_9 rfl rfl ?_
  refine s_bind (fun q7 hq8 => ?_)
  have hC9 := t_J6_bitCount_0f7a4 (l := xl X) (G := xG X) (M := M) hq8
  refine s_callS (pc := 10) (As := [.int q4]) (st := []) cl_J6_bitCount_0f7a4 wt_J6_bitCount_0f7a4 km_X11_291 rfl rfl (nle rfl) (nle rfl) (nle rfl) dX11_lines_10 hC9 ?_
  show S0 X _ M 13 [some (.ref (gh (xG X) + a0)), some (.int p1), some (.int p2), some (.int q4), none, none, none, none] [.int q7] _
  refine s_istore (pc := 13) dX11_lines_13 (nlt rfl) rfl (L' := [some (.ref (gh (xG X) + a0)), some (.int p1), some (.int p2), some (.int q4), some (.int q7), none, none, none]) rfl ?_
  refine s_iload (pc := 15) dX11_lines_15 rfl ?_
  refine s_ifeq (pc := 17) 39 dX11_lines_17 rfl ?_ ?_
  · refine s_iconst (pc := 39) (-1) dX11_lines_39 kc_m1 ?_
    exact s_iret rfl dX11_lines_40
  · refine s_iload (pc := 20) dX11_lines_20 rfl ?_
    refine s_bipush (pc := 22) 6 dX11_lines_22 kb_6 ?_
    refine s_icgt (pc := 24) 39 dX11_lines_24 rfl ?_ ?_
    · refine s_iconst (pc := 39) (-1) dX11_lines_39 kc_m1 ?_
      exact s_iret rfl dX11_lines_40
    · refine s_iload_n (pc := 27) 2 dX11_lines_27 rfl rfl ?_
      refine s_iflt (pc := 28) 39 dX11_lines_28 rfl ?_ ?_
      · refine s_iconst (pc := 39) (-1) dX11_lines_39 kc_m1 ?_
        exact s_iret rfl dX11_lines_40
      · refine s_iload_n (pc := 31) 2 dX11_lines_31 rfl rfl ?_
        refine s_iconst (pc := 32) 1 dX11_lines_32 kc_1 ?_
        refine s_iload (pc := 33) dX11_lines_33 rfl ?_
        refine s_iadd (pc := 35) dX11_lines_35 ?_
        refine s_icle (pc := 36) 41 dX11_lines_36 rfl ?_ ?_
        · refine s_aload_n (pc := 41) 0 dX11_lines_41 rfl rfl ?_
          refine s_geto (pc := 42) F_11 7 rfl o1 dX11_lines_42 kf_X11_62 ?_
          refine s_rvB (fun r10 => ?_)
          refine s_iload_n (pc := 45) 3 dX11_lines_45 rfl rfl ?_
          refine s_aload_n (pc := 46) 0 dX11_lines_46 rfl rfl ?_
          refine s_geto (pc := 47) F_11 0 rfl o1 dX11_lines_47 kf_X11_10 ?_
          refine s_rvB (fun r11 => ?_)
          refine s_grd (fun o12 => ?_)
          refine s_getiN (pc := 50) F_10 14 rfl o12 dX11_lines_50 (List.mem_of_getElem? (i := 21) rfl) ?_
          refine s_grd (fun o13 => ?_)
          refine s_bind (fun q14 hq15 => ?_)
          have hC16 := t_X5_isOf (l := xl X) (G := xG X) hq15
          refine s_callV (pc := 53) (As := [.int q4, .int (mI M r11 14)]) (st := []) (nlt rfl) (q := (RX5, TX5, 12)) rfl rfl o13 cl_X5_isOf wi_X5_isOf wl_X5_isOf km_X11_299 rfl rfl (nle rfl) (nle rfl) (nle rfl) dX11_lines_53 hC16 ?_
          show S0 X _ M 56 [some (.ref (gh (xG X) + a0)), some (.int p1), some (.int p2), some (.int q4), some (.int q7), none, none, none] [.int q14] _
          refine s_join M (fun s18 : Mem => s18) 179 (fun s18 : Mem => [some (.ref (gh (xG X) + a0)), none, some (.int p2), none, none, none, none, none]) (fun s18 : Mem => []) (fun s18 hs19 => ?_) (fun j17 hj20 => ?_)
          · show S0 X _ s18 179 [some (.ref (gh (xG X) + a0)), none, some (.int p2), none, none, none, none, none] [] _
            have o21 := hs19.ok o1
            refine s_aload_n (pc := 179) 0 dX11_lines_179 rfl rfl ?_
            refine s_geto (pc := 180) F_11 7 rfl o21 dX11_lines_180 kf_X11_62 ?_
            refine s_rvB (fun r22 => ?_)
            refine s_grd (fun o23 => ?_)
            refine s_geti (pc := 183) F_5 11 rfl o23 dX11_lines_183 kf_X11_314 ?_
            refine s_ifne (pc := 186) 191 dX11_lines_186 rfl ?_ ?_
            · refine s_iload_n (pc := 191) 2 dX11_lines_191 rfl rfl ?_
              refine s_iconst (pc := 192) 2 dX11_lines_192 kc_2 ?_
              refine s_icge (pc := 193) 218 dX11_lines_193 rfl ?_ ?_
              · refine s_aload_n (pc := 218) 0 dX11_lines_218 rfl rfl ?_
                refine s_geto (pc := 219) F_11 7 rfl o21 dX11_lines_219 kf_X11_62 ?_
                refine s_rvB (fun r24 => ?_)
                refine s_iload_n (pc := 222) 2 dX11_lines_222 rfl rfl ?_
                refine s_iconst (pc := 223) 2 dX11_lines_223 kc_2 ?_
                refine s_isub (pc := 224) dX11_lines_224 ?_
                refine s_grd (fun o25 => ?_)
                refine s_bind (fun q26 hq27 => ?_)
                have hC28 := t_X5_bestMother (l := xl X) (G := xG X) hq27
                refine s_callV (pc := 225) (As := [.int (p2 - 2)]) (st := []) (nlt rfl) (q := (RX5, TX5, 12)) rfl rfl o25 cl_X5_bestMother wi_X5_bestMother wl_X5_bestMother km_X11_318 rfl rfl (nle rfl) (nle rfl) (nle rfl) dX11_lines_225 hC28 ?_
                show S0 X _ s18 228 [some (.ref (gh (xG X) + a0)), none, some (.int p2), none, none, none, none, none] [.int q26] _
                exact s_iret rfl dX11_lines_228
              · refine s_iload_n (pc := 196) 2 dX11_lines_196 rfl rfl ?_
                refine s_ifne (pc := 197) 210 dX11_lines_197 rfl ?_ ?_
                · refine s_aload_n (pc := 210) 0 dX11_lines_210 rfl rfl ?_
                  refine s_geto (pc := 211) F_11 7 rfl o21 dX11_lines_211 kf_X11_62 ?_
                  refine s_rvB (fun r29 => ?_)
                  refine s_grd (fun o30 => ?_)
                  refine s_geti (pc := 214) F_5 11 rfl o30 dX11_lines_214 kf_X11_314 ?_
                  exact s_iret rfl dX11_lines_217
                · refine s_aload_n (pc := 200) 0 dX11_lines_200 rfl rfl ?_
                  refine s_geto (pc := 201) F_11 7 rfl o21 dX11_lines_201 kf_X11_62 ?_
                  refine s_rvB (fun r31 => ?_)
                  refine s_grd (fun o32 => ?_)
                  refine s_geti (pc := 204) F_5 10 rfl o32 dX11_lines_204 kf_X11_317 ?_
                  refine s_goto (pc := 207) 217 dX11_lines_207 rfl ?_
                  exact s_iret rfl dX11_lines_217
            · refine s_iconst (pc := 189) (-1) dX11_lines_189 kc_m1 ?_
              exact s_iret rfl dX11_lines_190
          · refine s_ifne (pc := 56) 179 dX11_lines_56 rfl ?_ ?_
            · exact s_drop (hj20 M Le.rf) (And.intro rfl (And.intro rfl trivial))
            · refine s_aload_n (pc := 59) 0 dX11_lines_59 rfl rfl ?_
              refine s_geto (pc := 60) F_11 7 rfl o1 dX11_lines_60 kf_X11_62 ?_
              refine s_rvB (fun r33 => ?_)
              refine s_iload_n (pc := 63) 3 dX11_lines_63 rfl rfl ?_
              refine s_aload_n (pc := 64) 0 dX11_lines_64 rfl rfl ?_
              refine s_geto (pc := 65) F_11 0 rfl o1 dX11_lines_65 kf_X11_10 ?_
              refine s_rvB (fun r34 => ?_)
              refine s_grd (fun o35 => ?_)
              refine s_getiN (pc := 68) F_10 14 rfl o35 dX11_lines_68 (List.mem_of_getElem? (i := 21) rfl) ?_
              refine s_grd (fun o36 => ?_)
              refine s_bind (fun q37 hq38 => ?_)
              have hC39 := t_X5_take (l := xl X) (G := xG X) hq38
              refine s_callV (pc := 71) (As := [.int q4, .int (mI M r34 14)]) (st := []) (nlt rfl) (q := (RX5, TX5, 12)) rfl rfl o36 cl_X5_take wi_X5_take wl_X5_take km_X11_302 rfl rfl (nle rfl) (nle rfl) (nle rfl) dX11_lines_71 hC39 ?_
              have h40 := hC39.1 X
              have o41 := h40.ok o1
              show S0 X _ q37 74 [some (.ref (gh (xG X) + a0)), some (.int p1), some (.int p2), some (.int q4), some (.int q7), none, none, none] [] _
              refine s_iconst (pc := 74) 0 dX11_lines_74 kc_0 ?_
              refine s_istore (pc := 75) dX11_lines_75 (nlt rfl) rfl (L' := [some (.ref (gh (xG X) + a0)), some (.int p1), some (.int p2), some (.int q4), some (.int q7), some (.int 0), none, none]) rfl ?_
              refine s_drop (L' := [some (.ref (gh (xG X) + a0)), none, some (.int p2), none, some (.int q7), some (.int 0), none, none]) ?_ (And.intro rfl (And.intro rfl (And.intro rfl (And.intro rfl trivial))))
              refine s_loop1 q37 (fun s42 : Mem × Int32 => s42.1) (fun s42 : Mem × Int32 => [some (.ref (gh (xG X) + a0)), none, some (.int p2), none, some (.int q7), some (.int s42.2), none, none]) (fun x49 : Mem => x49) 172 (fun x49 : Mem => [some (.ref (gh (xG X) + a0)), none, some (.int p2), none, none, none, none, none]) (fun x49 hx50 => ?_) (fun T44 R46 hT45 hR47 s42 hs43 => ?_) (q37, 0) Le.rf
              · show S0 X _ x49 172 [some (.ref (gh (xG X) + a0)), none, some (.int p2), none, none, none, none, none] [] _
                have o94 := hx50.ok o41
                refine s_aload_n (pc := 172) 0 dX11_lines_172 rfl rfl ?_
                refine s_geto (pc := 173) F_11 7 rfl o94 dX11_lines_173 kf_X11_62 ?_
                refine s_rvB (fun r95 => ?_)
                refine s_grd (fun o96 => ?_)
                refine s_bind (fun q97 hq98 => ?_)
                have hC99 := t_X5_search (l := xl X) (G := xG X) hq98
                refine s_callV (pc := 176) (As := []) (st := []) (nlt rfl) (q := (RX5, TX5, 12)) rfl rfl o96 cl_X5_search wi_X5_search wl_X5_search km_X11_311 rfl rfl (nle rfl) (nle rfl) (nle rfl) dX11_lines_176 hC99 ?_
                have h100 := hC99.1 X
                have o101 := h100.ok o94
                show S0 X _ q97 179 [some (.ref (gh (xG X) + a0)), none, some (.int p2), none, none, none, none, none] [] _
                exact s_drop (hj20 q97 (h40.tr (hx50.tr h100))) (And.intro rfl (And.intro rfl trivial))
              · show S0 X _ s42.1 77 [some (.ref (gh (xG X) + a0)), none, some (.int p2), none, some (.int q7), some (.int s42.2), none, none] [] _
                have o48 := hs43.ok o41
                refine s_iload (pc := 77) dX11_lines_77 rfl ?_
                refine s_iload (pc := 79) dX11_lines_79 rfl ?_
                refine s_iload (pc := 81) dX11_lines_81 rfl ?_
                refine s_imul (pc := 83) dX11_lines_83 ?_
                refine s_icge (pc := 84) 172 dX11_lines_84 rfl ?_ ?_
                · exact s_drop (hR47 s42.1 hs43) (And.intro rfl (And.intro rfl trivial))
                · refine s_aload_n (pc := 87) 0 dX11_lines_87 rfl rfl ?_
                  refine s_geto (pc := 88) F_11 0 rfl o48 dX11_lines_88 kf_X11_10 ?_
                  refine s_rvB (fun r51 => ?_)
                  refine s_grd (fun o52 => ?_)
                  refine s_getoN (pc := 91) F_10 5 rfl o52 dX11_lines_91 (List.mem_of_getElem? (i := 7) rfl) ?_
                  refine s_rvB (fun r53 => ?_)
                  refine s_aload_n (pc := 94) 0 dX11_lines_94 rfl rfl ?_
                  refine s_geto (pc := 95) F_11 7 rfl o48 dX11_lines_95 kf_X11_62 ?_
                  refine s_rvB (fun r54 => ?_)
                  refine s_iload (pc := 98) dX11_lines_98 rfl ?_
                  refine s_iload (pc := 100) dX11_lines_100 rfl ?_
                  refine s_grd (fun g55 => ?_)
                  refine s_irem (pc := 102) dX11_lines_102 g55 ?_
                  refine s_grd (fun o56 => ?_)
                  refine s_bind (fun q57 hq58 => ?_)
                  have hC59 := t_X5_houseAt (l := xl X) (G := xG X) hq58
                  refine s_callV (pc := 103) (As := [.int (ir s42.2 q7)]) (st := [.ref (gh (xG X) + r53)]) (nlt rfl) (q := (RX5, TX5, 12)) rfl rfl o56 cl_X5_houseAt wi_X5_houseAt wl_X5_houseAt km_X11_304 rfl rfl (nle rfl) (nle rfl) (nle rfl) dX11_lines_103 hC59 ?_
                  show S0 X _ s42.1 106 [some (.ref (gh (xG X) + a0)), none, some (.int p2), none, some (.int q7), some (.int s42.2), none, none] [.int q57, .ref (gh (xG X) + r53)] _
                  refine s_grd (fun o60 => ?_)
                  refine s_grd (fun i61 => ?_)
                  refine s_iald (pc := 106) o60 i61 dX11_lines_106 ?_
                  refine s_istore (pc := 107) dX11_lines_107 (nlt rfl) rfl (L' := [some (.ref (gh (xG X) + a0)), none, some (.int p2), none, some (.int q7), some (.int s42.2), some (.int (mI s42.1 r53 q57.toNatClampNeg)), none]) rfl ?_
                  refine s_bv (fun x62 : Int32 => [some (.ref (gh (xG X) + a0)), none, some (.int p2), none, some (.int q7), some (.int s42.2), some (.int x62), none]) (fun x62 => ?_) rfl
                  refine s_aload_n (pc := 109) 0 dX11_lines_109 rfl rfl ?_
                  refine s_geto (pc := 110) F_11 0 rfl o48 dX11_lines_110 kf_X11_10 ?_
                  refine s_rvB (fun r63 => ?_)
                  refine s_grd (fun o64 => ?_)
                  refine s_getoN (pc := 113) F_10 5 rfl o64 dX11_lines_113 (List.mem_of_getElem? (i := 7) rfl) ?_
                  refine s_rvB (fun r65 => ?_)
                  refine s_aload_n (pc := 116) 0 dX11_lines_116 rfl rfl ?_
                  refine s_geto (pc := 117) F_11 7 rfl o48 dX11_lines_117 kf_X11_62 ?_
                  refine s_rvB (fun r66 => ?_)
                  refine s_iload (pc := 120) dX11_lines_120 rfl ?_
                  refine s_iload (pc := 122) dX11_lines_122 rfl ?_
                  refine s_grd (fun g67 => ?_)
                  refine s_idiv (pc := 124) dX11_lines_124 g67 ?_
                  refine s_grd (fun o68 => ?_)
                  refine s_bind (fun q69 hq70 => ?_)
                  have hC71 := t_X5_houseAt (l := xl X) (G := xG X) hq70
                  refine s_callV (pc := 125) (As := [.int (s42.2 / q7)]) (st := [.ref (gh (xG X) + r65)]) (nlt rfl) (q := (RX5, TX5, 12)) rfl rfl o68 cl_X5_houseAt wi_X5_houseAt wl_X5_houseAt km_X11_304 rfl rfl (nle rfl) (nle rfl) (nle rfl) dX11_lines_125 hC71 ?_
                  show S0 X _ s42.1 128 [some (.ref (gh (xG X) + a0)), none, some (.int p2), none, some (.int q7), some (.int s42.2), some (.int x62), none] [.int q69, .ref (gh (xG X) + r65)] _
                  refine s_grd (fun o72 => ?_)
                  refine s_grd (fun i73 => ?_)
                  refine s_iald (pc := 128) o72 i73 dX11_lines_128 ?_
                  refine s_istore (pc := 129) dX11_lines_129 (nlt rfl) rfl (L' := [some (.ref (gh (xG X) + a0)), none, some (.int p2), none, some (.int q7), some (.int s42.2), some (.int x62), some (.int (mI s42.1 r65 q69.toNatClampNeg))]) rfl ?_
                  refine s_bv (fun x74 : Int32 => [some (.ref (gh (xG X) + a0)), none, some (.int p2), none, some (.int q7), some (.int s42.2), some (.int x62), some (.int x74)]) (fun x74 => ?_) rfl
                  refine s_aload_n (pc := 131) 0 dX11_lines_131 rfl rfl ?_
                  refine s_geto (pc := 132) F_11 7 rfl o48 dX11_lines_132 kf_X11_62 ?_
                  refine s_rvB (fun r75 => ?_)
                  refine s_iload (pc := 135) dX11_lines_135 rfl ?_
                  refine s_iload (pc := 137) dX11_lines_137 rfl ?_
                  refine s_grd (fun g76 => ?_)
                  refine s_irem (pc := 139) dX11_lines_139 g76 ?_
                  refine s_iload (pc := 140) dX11_lines_140 rfl ?_
                  refine s_iload (pc := 142) dX11_lines_142 rfl ?_
                  refine s_grd (fun g77 => ?_)
                  refine s_idiv (pc := 144) dX11_lines_144 g77 ?_
                  refine s_aload_n (pc := 145) 0 dX11_lines_145 rfl rfl ?_
                  refine s_geto (pc := 146) F_11 6 rfl o48 dX11_lines_146 kf_X11_55 ?_
                  refine s_rvB (fun r78 => ?_)
                  refine s_iload (pc := 149) dX11_lines_149 rfl ?_
                  refine s_iload (pc := 151) dX11_lines_151 rfl ?_
                  refine s_aload_n (pc := 153) 0 dX11_lines_153 rfl rfl ?_
                  refine s_geto (pc := 154) F_11 0 rfl o48 dX11_lines_154 kf_X11_10 ?_
                  refine s_rvB (fun r79 => ?_)
                  refine s_grd (fun o80 => ?_)
                  refine s_getiN (pc := 157) F_10 11 rfl o80 dX11_lines_157 (List.mem_of_getElem? (i := 14) rfl) ?_
                  refine s_grd (fun o81 => ?_)
                  refine s_bind (fun q82 hq83 => ?_)
                  have hC84 := t_X4_stepsFrom (l := xl X) (G := xG X) hq83
                  refine s_callV (pc := 160) (As := [.int x62, .int x74, .int (mI s42.1 r79 11)]) (st := [.int (s42.2 / q7), .int (ir s42.2 q7), .ref (gh (xG X) + r75)]) (nlt rfl) (q := (RX4, TX4, 10)) rfl rfl o81 cl_X4_stepsFrom wi_X4_stepsFrom wl_X4_stepsFrom km_X11_155 rfl rfl (nle rfl) (nle rfl) (nle rfl) dX11_lines_160 hC84 ?_
                  have h85 := hC84.1 X
                  have o86 := h85.ok o48
                  show S0 X _ q82.1 163 [some (.ref (gh (xG X) + a0)), none, some (.int p2), none, some (.int q7), some (.int s42.2), some (.int x62), some (.int x74)] [.int q82.2, .int (s42.2 / q7), .int (ir s42.2 q7), .ref (gh (xG X) + r75)] _
                  refine s_grd (fun o87 => ?_)
                  refine s_bind (fun q88 hq89 => ?_)
                  have hC90 := t_X5_setSteps (l := xl X) (G := xG X) hq89
                  refine s_callV (pc := 163) (As := [.int (ir s42.2 q7), .int (s42.2 / q7), .int q82.2]) (st := []) (nlt rfl) (q := (RX5, TX5, 12)) rfl rfl o87 cl_X5_setSteps wi_X5_setSteps wl_X5_setSteps km_X11_307 rfl rfl (nle rfl) (nle rfl) (nle rfl) dX11_lines_163 hC90 ?_
                  have h91 := hC90.1 X
                  have o92 := h91.ok o86
                  show S0 X _ q88 166 [some (.ref (gh (xG X) + a0)), none, some (.int p2), none, some (.int q7), some (.int s42.2), some (.int x62), some (.int x74)] [] _
                  refine s_iinc (pc := 166) dX11_lines_166 rfl (v := s42.2 + 1) (congrArg (fun z : Int32 => s42.2 + z) kc_1) (nlt rfl) rfl (L' := [some (.ref (gh (xG X) + a0)), none, some (.int p2), none, some (.int q7), some (.int (s42.2 + 1)), some (.int x62), some (.int x74)]) rfl ?_
                  refine s_bv (fun x93 : Int32 => [some (.ref (gh (xG X) + a0)), none, some (.int p2), none, some (.int q7), some (.int x93), some (.int x62), some (.int x74)]) (fun x93 => ?_) rfl
                  refine s_goto (pc := 169) 77 dX11_lines_169 rfl ?_
                  exact s_drop (hT45 (q88, x93) (hs43.tr (h85.tr h91))) (And.intro rfl (And.intro rfl (And.intro rfl (And.intro rfl trivial))))
        · refine s_iconst (pc := 39) (-1) dX11_lines_39 kc_m1 ?_
          exact s_iret rfl dX11_lines_40
abbrev Y_X12_bothOf (d : Nat) : Sta := (RX12, "bothOf", cX12_bothOf, 4, (some .boolean), 104 + d)
abbrev Y_X12_plainOf (d : Nat) : Sta := (RX12, "plainOf", cX12_plainOf, 3, (some .boolean), 104 + d)
abbrev Y_X12_positiveOf (d : Nat) : Sta := (RX12, "positiveOf", cX12_positiveOf, 7, (some .boolean), 104 + d)
abbrev Y_X12_testOf (d : Nat) : Sta := (RX12, "testOf", cX12_testOf, 4, (some .boolean), 104 + d)
set_option maxRecDepth 100000 in
set_option maxHeartbeats 8000000 in
noncomputable def b_X12_bothOf (g_X12_plainOf : Mem → Nat → Int32 → Option (Mem × Int32)) (M : Mem) (a0 : Nat) (p1 : Int32) : Option (Mem × Int32) :=
  grd (okO M 12 a0) (Option.bind (g_X12_plainOf M a0 p1) (fun q2 => Option.bind (loopO (σ := Mem × Int32) (ρ := Mem × Int32) (fun s7 => Option.bind (f_X12_passes0 s7.1 a0 5) (fun q16 => if q16.2 = 0 then (some (.inr (q16.1, s7.2))) else (bv (fun (s22 : Int32) => Option.bind (g_X12_plainOf q16.1 a0 s22) (fun q25 => bv (fun (s31 : Int32) => some (.inl (q25.1, s31))) (fun j30 => bv (fun (s35 : Unit) => j30 0) (fun j34 => if s7.2 = 0 then (j34 ()) else (if q25.2 = 0 then (j34 ()) else (j30 1)))))) (fun j21 => bv (fun (s39 : Unit) => j21 0) (fun j38 => if p1 = 0 then (j38 ()) else (if s7.2 = 0 then (j38 ()) else (j21 1))))))) (q2.1, q2.2)) (fun (x14 : Mem × Int32) => grd (bl x14.2) (some (x14.1, x14.2)))))
set_option maxRecDepth 100000 in
set_option maxHeartbeats 8000000 in
theorem t_X12_bothOf {d : Nat} {g_X12_plainOf : Mem → Nat → Int32 → Option (Mem × Int32)} {l : Launch} {G : Gh} {M : Mem} {a0 : Nat} {p1 : Int32} {q : Mem × Int32} (hg_X12_plainOf : ∀ X : Ctx, xG X = G → xl X = l → ∀ (M : Mem) (a0 : Nat) (p1 : Int32) (q : Mem × Int32), g_X12_plainOf M a0 p1 = some q → Ctr (xl X) (xG X) yX12_plainOf (Y_X12_plainOf d) M [.ref (gh (xG X) + a0), .int p1] q.1 (some (.int q.2))) (h : b_X12_bothOf g_X12_plainOf M a0 p1 = some q) : Ctr l G yX12_bothOf (Y_X12_bothOf (d + 1)) M [.ref (gh G + a0), .int p1] q.1 (some (.int q.2)) := by
  refine Ctr.of (Y := (Y_X12_bothOf (d + 1))) (L := [some (.ref (gh G + a0)), some (.int p1), none, none]) (t := Option.bind (b_X12_bothOf g_X12_plainOf M a0 p1) (fun q => some (q.1, some (.int q.2)))) (by decide) rfl rfl (nle rfl) (Lof_in 2 _ rfl) (fun X hG hl => ?_) (by rw [h]; rfl)
  subst hG
  subst hl
  unfold b_X12_bothOf
  refine s_aload_n (pc := 0) 0 dX12_bothOf_0 rfl rfl ?_
  refine s_iload_n (pc := 1) 1 dX12_bothOf_1 rfl rfl ?_
  refine s_grd (fun o1 => ?_)
  refine s_bind (fun q2 hq3 => ?_)
  have hC4 := hg_X12_plainOf X rfl rfl M a0 p1 q2 hq3
  refine s_callV (pc := 2) (As := [.int p1]) (st := []) (nlt rfl) (q := (RX12, TX12, 59)) rfl rfl o1 cl_X12_plainOf wi_X12_plainOf wl_X12_plainOf km_X12_348 rfl rfl (Nat.le_refl _) (nle rfl) (nle rfl) dX12_bothOf_2 hC4 ?_
  have h5 := hC4.1 X
  have o6 := h5.ok o1
  show S0 X _ q2.1 5 [some (.ref (gh (xG X) + a0)), some (.int p1), none, none] [.int q2.2] _
  refine s_istore_n (pc := 5) 2 dX12_bothOf_5 rfl (nlt rfl) rfl (L' := [some (.ref (gh (xG X) + a0)), some (.int p1), some (.int q2.2), none]) rfl ?_
  refine s_drop (L' := [some (.ref (gh (xG X) + a0)), some (.int p1), some (.int q2.2), none]) ?_ (And.intro rfl (And.intro rfl (And.intro rfl trivial)))
  refine s_loop1 q2.1 (fun s7 : Mem × Int32 => s7.1) (fun s7 : Mem × Int32 => [some (.ref (gh (xG X) + a0)), some (.int p1), some (.int s7.2), none]) (fun x14 : Mem × Int32 => x14.1) 49 (fun x14 : Mem × Int32 => [none, none, some (.int x14.2), none]) (fun x14 hx15 => ?_) (fun T9 R11 hT10 hR12 s7 hs8 => ?_) (q2.1, q2.2) Le.rf
  · show S0 X _ x14.1 49 [none, none, some (.int x14.2), none] [] _
    refine s_iload_n (pc := 49) 2 dX12_bothOf_49 rfl rfl ?_
    refine s_grd (fun g42 => ?_)
    exact s_zret rfl g42 dX12_bothOf_50
  · show S0 X _ s7.1 6 [some (.ref (gh (xG X) + a0)), some (.int p1), some (.int s7.2), none] [] _
    have o13 := hs8.ok o6
    refine s_aload_n (pc := 6) 0 dX12_bothOf_6 rfl rfl ?_
    refine s_iconst (pc := 7) 5 dX12_bothOf_7 kc_5 ?_
    refine s_bind (fun q16 hq17 => ?_)
    have hC18 := t_X12_passes0 (l := xl X) (G := xG X) hq17
    refine s_callV (pc := 8) (As := [.int 5]) (st := []) (nlt rfl) (q := (RX12, TX12, 59)) rfl rfl o13 cl_X12_passes0 wi_X12_passes0 wl_X12_passes0 km_X12_333 rfl rfl (Nat.le_trans (nle rfl : _ ≤ 104) (Nat.le_add_right 104 _)) (nle rfl) (nle rfl) dX12_bothOf_8 hC18 ?_
    have h19 := hC18.1 X
    have o20 := h19.ok o13
    show S0 X _ q16.1 11 [some (.ref (gh (xG X) + a0)), some (.int p1), some (.int s7.2), none] [.int q16.2] _
    refine s_ifeq (pc := 11) 49 dX12_bothOf_11 rfl ?_ ?_
    · exact s_drop (hR12 (q16.1, s7.2) (hs8.tr h19)) (And.intro rfl trivial)
    · refine s_aload_n (pc := 14) 0 dX12_bothOf_14 rfl rfl ?_
      refine s_iload_n (pc := 15) 1 dX12_bothOf_15 rfl rfl ?_
      refine s_join q16.1 (fun s22 : Int32 => q16.1) 28 (fun s22 : Int32 => [some (.ref (gh (xG X) + a0)), some (.int p1), some (.int s7.2), none]) (fun s22 : Int32 => [.int s22, .ref (gh (xG X) + a0)]) (fun s22 hs23 => ?_) (fun j21 hj24 => ?_)
      · show S0 X _ q16.1 28 [some (.ref (gh (xG X) + a0)), some (.int p1), some (.int s7.2), none] [.int s22, .ref (gh (xG X) + a0)] _
        refine s_bind (fun q25 hq26 => ?_)
        have hC27 := hg_X12_plainOf X rfl rfl q16.1 a0 s22 q25 hq26
        refine s_callV (pc := 28) (As := [.int s22]) (st := []) (nlt rfl) (q := (RX12, TX12, 59)) rfl rfl o20 cl_X12_plainOf wi_X12_plainOf wl_X12_plainOf km_X12_348 rfl rfl (Nat.le_refl _) (nle rfl) (nle rfl) dX12_bothOf_28 hC27 ?_
        have h28 := hC27.1 X
        have o29 := h28.ok o20
        show S0 X _ q25.1 31 [some (.ref (gh (xG X) + a0)), some (.int p1), some (.int s7.2), none] [.int q25.2] _
        refine s_istore_n (pc := 31) 3 dX12_bothOf_31 rfl (nlt rfl) rfl (L' := [some (.ref (gh (xG X) + a0)), some (.int p1), some (.int s7.2), some (.int q25.2)]) rfl ?_
        refine s_iload_n (pc := 32) 2 dX12_bothOf_32 rfl rfl ?_
        refine s_join q25.1 (fun s31 : Int32 => q25.1) 45 (fun s31 : Int32 => [some (.ref (gh (xG X) + a0)), some (.int p1), none, none]) (fun s31 : Int32 => [.int s31]) (fun s31 hs32 => ?_) (fun j30 hj33 => ?_)
        · show S0 X _ q25.1 45 [some (.ref (gh (xG X) + a0)), some (.int p1), none, none] [.int s31] _
          refine s_istore_n (pc := 45) 2 dX12_bothOf_45 rfl (nlt rfl) rfl (L' := [some (.ref (gh (xG X) + a0)), some (.int p1), some (.int s31), none]) rfl ?_
          refine s_goto (pc := 46) 6 dX12_bothOf_46 rfl ?_
          exact s_drop (hT10 (q25.1, s31) (hs8.tr (h19.tr h28))) (And.intro rfl (And.intro rfl (And.intro rfl trivial)))
        · refine s_join q25.1 (fun s35 : Unit => q25.1) 44 (fun s35 : Unit => [some (.ref (gh (xG X) + a0)), some (.int p1), none, none]) (fun s35 : Unit => []) (fun s35 hs36 => ?_) (fun j34 hj37 => ?_)
          · show S0 X _ q25.1 44 [some (.ref (gh (xG X) + a0)), some (.int p1), none, none] [] _
            refine s_iconst (pc := 44) 0 dX12_bothOf_44 kc_0 ?_
            exact s_drop (hj33 0 Le.rf) (And.intro rfl (And.intro rfl trivial))
          · refine s_ifeq (pc := 33) 44 dX12_bothOf_33 rfl ?_ ?_
            · exact s_drop (hj37 () Le.rf) (And.intro rfl (And.intro rfl trivial))
            · refine s_iload_n (pc := 36) 3 dX12_bothOf_36 rfl rfl ?_
              refine s_ifeq (pc := 37) 44 dX12_bothOf_37 rfl ?_ ?_
              · exact s_drop (hj37 () Le.rf) (And.intro rfl (And.intro rfl trivial))
              · refine s_iconst (pc := 40) 1 dX12_bothOf_40 kc_1 ?_
                refine s_goto (pc := 41) 45 dX12_bothOf_41 rfl ?_
                exact s_drop (hj33 1 Le.rf) (And.intro rfl (And.intro rfl trivial))
      · refine s_join q16.1 (fun s39 : Unit => q16.1) 27 (fun s39 : Unit => [some (.ref (gh (xG X) + a0)), some (.int p1), some (.int s7.2), none]) (fun s39 : Unit => [.ref (gh (xG X) + a0)]) (fun s39 hs40 => ?_) (fun j38 hj41 => ?_)
        · show S0 X _ q16.1 27 [some (.ref (gh (xG X) + a0)), some (.int p1), some (.int s7.2), none] [.ref (gh (xG X) + a0)] _
          refine s_iconst (pc := 27) 0 dX12_bothOf_27 kc_0 ?_
          exact s_drop (hj24 0 Le.rf) (And.intro rfl (And.intro rfl (And.intro rfl trivial)))
        · refine s_ifeq (pc := 16) 27 dX12_bothOf_16 rfl ?_ ?_
          · exact s_drop (hj41 () Le.rf) (And.intro rfl (And.intro rfl (And.intro rfl trivial)))
          · refine s_iload_n (pc := 19) 2 dX12_bothOf_19 rfl rfl ?_
            refine s_ifeq (pc := 20) 27 dX12_bothOf_20 rfl ?_ ?_
            · exact s_drop (hj41 () Le.rf) (And.intro rfl (And.intro rfl (And.intro rfl trivial)))
            · refine s_iconst (pc := 23) 1 dX12_bothOf_23 kc_1 ?_
              refine s_goto (pc := 24) 28 dX12_bothOf_24 rfl ?_
              exact s_drop (hj24 1 Le.rf) (And.intro rfl (And.intro rfl (And.intro rfl trivial)))
set_option maxRecDepth 100000 in
set_option maxHeartbeats 8000000 in
noncomputable def b_X12_plainOf (g_X12_positiveOf : Mem → Nat → Int32 → Option (Mem × Int32)) (M : Mem) (a0 : Nat) (p1 : Int32) : Option (Mem × Int32) :=
  Option.bind (loopO (σ := Mem × Int32) (ρ := Mem × Int32) (fun s1 => grd (okO s1.1 12 a0) (Option.bind (f_X12_passes0 s1.1 a0 6) (fun q10 => if q10.2 = 0 then (some (.inr (q10.1, s1.2))) else (bv (fun (s16 : Int32) => some (.inl (q10.1, s16))) (fun j15 => if s1.2 = 0 then (j15 1) else (j15 0)))))) (M, 0)) (fun (x7 : Mem × Int32) => grd (okO x7.1 12 a0) (Option.bind (g_X12_positiveOf x7.1 a0 p1) (fun q20 => if q20.2 = x7.2 then (some (q20.1, 0)) else (some (q20.1, 1)))))
set_option maxRecDepth 100000 in
set_option maxHeartbeats 8000000 in
theorem t_X12_plainOf {d : Nat} {g_X12_positiveOf : Mem → Nat → Int32 → Option (Mem × Int32)} {l : Launch} {G : Gh} {M : Mem} {a0 : Nat} {p1 : Int32} {q : Mem × Int32} (hg_X12_positiveOf : ∀ X : Ctx, xG X = G → xl X = l → ∀ (M : Mem) (a0 : Nat) (p1 : Int32) (q : Mem × Int32), g_X12_positiveOf M a0 p1 = some q → Ctr (xl X) (xG X) yX12_positiveOf (Y_X12_positiveOf d) M [.ref (gh (xG X) + a0), .int p1] q.1 (some (.int q.2))) (h : b_X12_plainOf g_X12_positiveOf M a0 p1 = some q) : Ctr l G yX12_plainOf (Y_X12_plainOf (d + 1)) M [.ref (gh G + a0), .int p1] q.1 (some (.int q.2)) := by
  refine Ctr.of (Y := (Y_X12_plainOf (d + 1))) (L := [some (.ref (gh G + a0)), some (.int p1), none]) (t := Option.bind (b_X12_plainOf g_X12_positiveOf M a0 p1) (fun q => some (q.1, some (.int q.2)))) (by decide) rfl rfl (nle rfl) (Lof_in 1 _ rfl) (fun X hG hl => ?_) (by rw [h]; rfl)
  subst hG
  subst hl
  unfold b_X12_plainOf
  refine s_iconst (pc := 0) 0 dX12_plainOf_0 kc_0 ?_
  refine s_istore_n (pc := 1) 2 dX12_plainOf_1 rfl (nlt rfl) rfl (L' := [some (.ref (gh (xG X) + a0)), some (.int p1), some (.int 0)]) rfl ?_
  refine s_drop (L' := [some (.ref (gh (xG X) + a0)), some (.int p1), some (.int 0)]) ?_ (And.intro rfl (And.intro rfl (And.intro rfl trivial)))
  refine s_loop1 M (fun s1 : Mem × Int32 => s1.1) (fun s1 : Mem × Int32 => [some (.ref (gh (xG X) + a0)), some (.int p1), some (.int s1.2)]) (fun x7 : Mem × Int32 => x7.1) 24 (fun x7 : Mem × Int32 => [some (.ref (gh (xG X) + a0)), some (.int p1), some (.int x7.2)]) (fun x7 hx8 => ?_) (fun T3 R5 hT4 hR6 s1 hs2 => ?_) (M, 0) Le.rf
  · show S0 X _ x7.1 24 [some (.ref (gh (xG X) + a0)), some (.int p1), some (.int x7.2)] [] _
    refine s_aload_n (pc := 24) 0 dX12_plainOf_24 rfl rfl ?_
    refine s_iload_n (pc := 25) 1 dX12_plainOf_25 rfl rfl ?_
    refine s_grd (fun o19 => ?_)
    refine s_bind (fun q20 hq21 => ?_)
    have hC22 := hg_X12_positiveOf X rfl rfl x7.1 a0 p1 q20 hq21
    refine s_callV (pc := 26) (As := [.int p1]) (st := []) (nlt rfl) (q := (RX12, TX12, 59)) rfl rfl o19 cl_X12_positiveOf wi_X12_positiveOf wl_X12_positiveOf km_X12_351 rfl rfl (Nat.le_refl _) (nle rfl) (nle rfl) dX12_plainOf_26 hC22 ?_
    have h23 := hC22.1 X
    have o24 := h23.ok o19
    show S0 X _ q20.1 29 [some (.ref (gh (xG X) + a0)), some (.int p1), some (.int x7.2)] [.int q20.2] _
    refine s_iload_n (pc := 29) 2 dX12_plainOf_29 rfl rfl ?_
    refine s_iceq (pc := 30) 37 dX12_plainOf_30 rfl ?_ ?_
    · refine s_iconst (pc := 37) 0 dX12_plainOf_37 kc_0 ?_
      exact s_zret rfl rfl dX12_plainOf_38
    · refine s_iconst (pc := 33) 1 dX12_plainOf_33 kc_1 ?_
      refine s_goto (pc := 34) 38 dX12_plainOf_34 rfl ?_
      exact s_zret rfl rfl dX12_plainOf_38
  · show S0 X _ s1.1 2 [some (.ref (gh (xG X) + a0)), some (.int p1), some (.int s1.2)] [] _
    refine s_aload_n (pc := 2) 0 dX12_plainOf_2 rfl rfl ?_
    refine s_bipush (pc := 3) 6 dX12_plainOf_3 kb_6 ?_
    refine s_grd (fun o9 => ?_)
    refine s_bind (fun q10 hq11 => ?_)
    have hC12 := t_X12_passes0 (l := xl X) (G := xG X) hq11
    refine s_callV (pc := 5) (As := [.int 6]) (st := []) (nlt rfl) (q := (RX12, TX12, 59)) rfl rfl o9 cl_X12_passes0 wi_X12_passes0 wl_X12_passes0 km_X12_333 rfl rfl (Nat.le_trans (nle rfl : _ ≤ 104) (Nat.le_add_right 104 _)) (nle rfl) (nle rfl) dX12_plainOf_5 hC12 ?_
    have h13 := hC12.1 X
    have o14 := h13.ok o9
    show S0 X _ q10.1 8 [some (.ref (gh (xG X) + a0)), some (.int p1), some (.int s1.2)] [.int q10.2] _
    refine s_ifeq (pc := 8) 24 dX12_plainOf_8 rfl ?_ ?_
    · exact s_drop (hR6 (q10.1, s1.2) (hs2.tr h13)) (And.intro rfl (And.intro rfl (And.intro rfl trivial)))
    · refine s_iload_n (pc := 11) 2 dX12_plainOf_11 rfl rfl ?_
      refine s_join q10.1 (fun s16 : Int32 => q10.1) 20 (fun s16 : Int32 => [some (.ref (gh (xG X) + a0)), some (.int p1), none]) (fun s16 : Int32 => [.int s16]) (fun s16 hs17 => ?_) (fun j15 hj18 => ?_)
      · show S0 X _ q10.1 20 [some (.ref (gh (xG X) + a0)), some (.int p1), none] [.int s16] _
        refine s_istore_n (pc := 20) 2 dX12_plainOf_20 rfl (nlt rfl) rfl (L' := [some (.ref (gh (xG X) + a0)), some (.int p1), some (.int s16)]) rfl ?_
        refine s_goto (pc := 21) 2 dX12_plainOf_21 rfl ?_
        exact s_drop (hT4 (q10.1, s16) (hs2.tr h13)) (And.intro rfl (And.intro rfl (And.intro rfl trivial)))
      · refine s_ifne (pc := 12) 19 dX12_plainOf_12 rfl ?_ ?_
        · refine s_iconst (pc := 19) 0 dX12_plainOf_19 kc_0 ?_
          exact s_drop (hj18 0 Le.rf) (And.intro rfl (And.intro rfl trivial))
        · refine s_iconst (pc := 15) 1 dX12_plainOf_15 kc_1 ?_
          refine s_goto (pc := 16) 20 dX12_plainOf_16 rfl ?_
          exact s_drop (hj18 1 Le.rf) (And.intro rfl (And.intro rfl trivial))
