set_option maxRecDepth 100000 in
set_option maxHeartbeats 8000000 in
noncomputable def f_X11_changes (M : Mem) (a0 : Nat) (p1 : Int32) (p2 : Int32) : Option (Mem × Int32) :=
  Option.bind (f_X6_rankOf p1) (fun q1 => if q1 = (-1) then (some (M, (-1))) else (if (-1) ≤ p2 then (grd (okO M 11 a0) (Option.bind (mR M a0 4) (fun r5 => Option.bind (mR M a0 0) (fun r6 => grd (okO M 10 r6) (grd (okO M 8 r5) (Option.bind (f_X8_open M r5 (mI M r6 11)) (fun q9 => Option.bind (mR q9 a0 5) (fun r14 => grd (okO q9 1 r14) (Option.bind (f_X1_listAll q9 r14 q1) (fun q16 => if p2 = (-1) then (Option.bind (mR q16 a0 5) (fun r31 => grd (okO q16 1 r31) (some (q16, mI q16 r31 5)))) else (Option.bind (mR q16 a0 5) (fun r21 => grd (okO q16 1 r21) (if (mI q16 r21 5) ≤ p2 then (some (q16, (-1))) else (Option.bind (mR q16 a0 5) (fun r23 => grd (okO q16 1 r23) (Option.bind (mR q16 r23 3) (fun r25 => grd (okO q16 14 r25) (grd (vp_in p2 (mL q16 r25)) (Option.bind (f_X6_numberOf (mI q16 r25 p2.toNatClampNeg)) (fun q28 => some (q16, q28))))))))))))))))))))) else (some (M, (-1)))))
abbrev Y_X11_changes : Sta := (RX11, "changes", cX11_changes, 4, (some .int), 7)
set_option maxRecDepth 100000 in
set_option maxHeartbeats 8000000 in
theorem t_X11_changes {l : Launch} {G : Gh} {M : Mem} {a0 : Nat} {p1 : Int32} {p2 : Int32} {q : Mem × Int32} (h : f_X11_changes M a0 p1 p2 = some q) : Ctr l G yX11_changes Y_X11_changes M [.ref (gh G + a0), .int p1, .int p2] q.1 (some (.int q.2)) := by
  refine Ctr.of (Y := Y_X11_changes) (L := [some (.ref (gh G + a0)), some (.int p1), some (.int p2), none]) (t := Option.bind (f_X11_changes M a0 p1 p2) (fun q => some (q.1, some (.int q.2)))) (by decide) rfl rfl (nle rfl) (Lof_in 1 _ rfl) (fun X hG hl => ?_) (by rw [h]; rfl)
  subst hG
  subst hl
  unfold f_X11_changes
  refine s_iload_n (pc := 0) 1 dX11_changes_0 rfl rfl ?_
  refine s_bind (fun q1 hq2 => ?_)
  have hC3 := t_X6_rankOf (l := xl X) (G := xG X) (M := M) hq2
  refine s_callS (pc := 1) (As := [.int p1]) (st := []) cl_X6_rankOf wt_X6_rankOf km_X11_111 rfl rfl (nle rfl) (nle rfl) (nle rfl) dX11_changes_1 hC3 ?_
  show S0 X _ M 4 [some (.ref (gh (xG X) + a0)), some (.int p1), some (.int p2), none] [.int q1] _
  refine s_istore_n (pc := 4) 3 dX11_changes_4 rfl (nlt rfl) rfl (L' := [some (.ref (gh (xG X) + a0)), some (.int p1), some (.int p2), some (.int q1)]) rfl ?_
  refine s_iload_n (pc := 5) 3 dX11_changes_5 rfl rfl ?_
  refine s_iconst (pc := 6) (-1) dX11_changes_6 kc_m1 ?_
  refine s_iceq (pc := 7) 15 dX11_changes_7 rfl ?_ ?_
  · refine s_iconst (pc := 15) (-1) dX11_changes_15 kc_m1 ?_
    exact s_iret rfl dX11_changes_16
  · refine s_iload_n (pc := 10) 2 dX11_changes_10 rfl rfl ?_
    refine s_iconst (pc := 11) (-1) dX11_changes_11 kc_m1 ?_
    refine s_icge (pc := 12) 17 dX11_changes_12 rfl ?_ ?_
    · refine s_aload_n (pc := 17) 0 dX11_changes_17 rfl rfl ?_
      refine s_grd (fun o4 => ?_)
      refine s_geto (pc := 18) F_11 4 rfl o4 dX11_changes_18 kf_X11_39 ?_
      refine s_rvB (fun r5 => ?_)
      refine s_aload_n (pc := 21) 0 dX11_changes_21 rfl rfl ?_
      refine s_geto (pc := 22) F_11 0 rfl o4 dX11_changes_22 kf_X11_10 ?_
      refine s_rvB (fun r6 => ?_)
      refine s_grd (fun o7 => ?_)
      refine s_getiN (pc := 25) F_10 11 rfl o7 dX11_changes_25 (List.mem_of_getElem? (i := 14) rfl) ?_
      refine s_grd (fun o8 => ?_)
      refine s_bind (fun q9 hq10 => ?_)
      have hC11 := t_X8_open (l := xl X) (G := xG X) hq10
      refine s_callV (pc := 28) (As := [.int (mI M r6 11)]) (st := []) (nlt rfl) (q := (RX8, TX8, 7)) rfl rfl o8 cl_X8_open wi_X8_open wl_X8_open km_X11_233 rfl rfl (nle rfl) (nle rfl) (nle rfl) dX11_changes_28 hC11 ?_
      have h12 := hC11.1 X
      have o13 := h12.ok o4
      show S0 X _ q9 31 [some (.ref (gh (xG X) + a0)), some (.int p1), some (.int p2), some (.int q1)] [] _
      refine s_aload_n (pc := 31) 0 dX11_changes_31 rfl rfl ?_
      refine s_geto (pc := 32) F_11 5 rfl o13 dX11_changes_32 kf_X11_48 ?_
      refine s_rvB (fun r14 => ?_)
      refine s_iload_n (pc := 35) 3 dX11_changes_35 rfl rfl ?_
      refine s_grd (fun o15 => ?_)
      refine s_bind (fun q16 hq17 => ?_)
      have hC18 := t_X1_listAll (l := xl X) (G := xG X) hq17
      refine s_callV (pc := 36) (As := [.int q1]) (st := []) (nlt rfl) (q := (RX1, TX1, 8)) rfl rfl o15 cl_X1_listAll wi_X1_listAll wl_X1_listAll km_X11_245 rfl rfl (nle rfl) (nle rfl) (nle rfl) dX11_changes_36 hC18 ?_
      have h19 := hC18.1 X
      have o20 := h19.ok o13
      show S0 X _ q16 39 [some (.ref (gh (xG X) + a0)), some (.int p1), some (.int p2), some (.int q1)] [] _
      refine s_iload_n (pc := 39) 2 dX11_changes_39 rfl rfl ?_
      refine s_iconst (pc := 40) (-1) dX11_changes_40 kc_m1 ?_
      refine s_icne (pc := 41) 52 dX11_changes_41 rfl ?_ ?_
      · refine s_iload_n (pc := 52) 2 dX11_changes_52 rfl rfl ?_
        refine s_aload_n (pc := 53) 0 dX11_changes_53 rfl rfl ?_
        refine s_geto (pc := 54) F_11 5 rfl o20 dX11_changes_54 kf_X11_48 ?_
        refine s_rvB (fun r21 => ?_)
        refine s_grd (fun o22 => ?_)
        refine s_geti (pc := 57) F_1 5 rfl o22 dX11_changes_57 kf_X11_248 ?_
        refine s_icge (pc := 60) 78 dX11_changes_60 rfl ?_ ?_
        · refine s_iconst (pc := 78) (-1) dX11_changes_78 kc_m1 ?_
          exact s_iret rfl dX11_changes_79
        · refine s_aload_n (pc := 63) 0 dX11_changes_63 rfl rfl ?_
          refine s_geto (pc := 64) F_11 5 rfl o20 dX11_changes_64 kf_X11_48 ?_
          refine s_rvB (fun r23 => ?_)
          refine s_grd (fun o24 => ?_)
          refine s_geto (pc := 67) F_1 3 rfl o24 dX11_changes_67 kf_X11_249 ?_
          refine s_rvB (fun r25 => ?_)
          refine s_iload_n (pc := 70) 2 dX11_changes_70 rfl rfl ?_
          refine s_grd (fun o26 => ?_)
          refine s_grd (fun i27 => ?_)
          refine s_iald (pc := 71) o26 i27 dX11_changes_71 ?_
          refine s_bind (fun q28 hq29 => ?_)
          have hC30 := t_X6_numberOf (l := xl X) (G := xG X) (M := q16) hq29
          refine s_callS (pc := 72) (As := [.int (mI q16 r25 p2.toNatClampNeg)]) (st := []) cl_X6_numberOf wt_X6_numberOf km_X11_146 rfl rfl (nle rfl) (nle rfl) (nle rfl) dX11_changes_72 hC30 ?_
          show S0 X _ q16 75 [some (.ref (gh (xG X) + a0)), some (.int p1), some (.int p2), some (.int q1)] [.int q28] _
          refine s_goto (pc := 75) 79 dX11_changes_75 rfl ?_
          exact s_iret rfl dX11_changes_79
      · refine s_aload_n (pc := 44) 0 dX11_changes_44 rfl rfl ?_
        refine s_geto (pc := 45) F_11 5 rfl o20 dX11_changes_45 kf_X11_48 ?_
        refine s_rvB (fun r31 => ?_)
        refine s_grd (fun o32 => ?_)
        refine s_geti (pc := 48) F_1 5 rfl o32 dX11_changes_48 kf_X11_248 ?_
        exact s_iret rfl dX11_changes_51
    · refine s_iconst (pc := 15) (-1) dX11_changes_15 kc_m1 ?_
      exact s_iret rfl dX11_changes_16
set_option maxRecDepth 100000 in
set_option maxHeartbeats 8000000 in
noncomputable def f_X11_keepsCustom (M : Mem) (a0 : Nat) (p1 : Int32) : Option (Mem × Int32) :=
  grd (okO M 11 a0) (Option.bind (mR M a0 0) (fun r2 => grd (okO M 10 r2) (Option.bind (mR M r2 3) (fun r4 => grd (okO M 14 r4) (grd (vp_in p1 (mL M r4)) (bv (mI M r4 p1.toNatClampNeg : Int32) (fun x7 => Option.bind (mR M a0 0) (fun r8 => grd (okO M 10 r8) (Option.bind (f_X10_hasHouse M r8 x7) (fun q10 => if q10 = 0 then (some (M, 0)) else (Option.bind (mR M a0 4) (fun r13 => Option.bind (mR M a0 0) (fun r14 => grd (okO M 10 r14) (Option.bind (mR M r14 4) (fun r16 => grd (okO M 14 r16) (grd (vp_in p1 (mL M r16)) (grd (okO M 8 r13) (Option.bind (f_X8_open M r13 (mI M r16 p1.toNatClampNeg)) (fun q20 => Option.bind (mR q20 a0 5) (fun r25 => Option.bind (mR q20 a0 0) (fun r26 => grd (okO q20 10 r26) (Option.bind (mR q20 r26 5) (fun r28 => grd (okO q20 14 r28) (grd (vp_in x7 (mL q20 r28)) (grd (okO q20 1 r25) (Option.bind (f_X1_listAll q20 r25 (mI q20 r28 x7.toNatClampNeg)) (fun q32 => Option.bind (mR q32 a0 5) (fun r37 => Option.bind (mR q32 a0 0) (fun r38 => grd (okO q32 10 r38) (Option.bind (mR q32 r38 5) (fun r40 => grd (okO q32 14 r40) (grd (vp_in p1 (mL q32 r40)) (grd (okO q32 1 r37) (Option.bind (f_X1_hasMade q32 r37 (mI q32 r40 p1.toNatClampNeg)) (fun q44 => grd (bl q44) (some (q32, q44)))))))))))))))))))))))))))))))))))))
abbrev Y_X11_keepsCustom : Sta := (RX11, "keepsCustom", cX11_keepsCustom, 3, (some .boolean), 7)
set_option maxRecDepth 100000 in
set_option maxHeartbeats 8000000 in
theorem t_X11_keepsCustom {l : Launch} {G : Gh} {M : Mem} {a0 : Nat} {p1 : Int32} {q : Mem × Int32} (h : f_X11_keepsCustom M a0 p1 = some q) : Ctr l G yX11_keepsCustom Y_X11_keepsCustom M [.ref (gh G + a0), .int p1] q.1 (some (.int q.2)) := by
  refine Ctr.of (Y := Y_X11_keepsCustom) (L := [some (.ref (gh G + a0)), some (.int p1), none]) (t := Option.bind (f_X11_keepsCustom M a0 p1) (fun q => some (q.1, some (.int q.2)))) (by decide) rfl rfl (nle rfl) (Lof_in 1 _ rfl) (fun X hG hl => ?_) (by rw [h]; rfl)
  subst hG
  subst hl
  unfold f_X11_keepsCustom
  refine s_aload_n (pc := 0) 0 dX11_keepsCustom_0 rfl rfl ?_
  refine s_grd (fun o1 => ?_)
  refine s_geto (pc := 1) F_11 0 rfl o1 dX11_keepsCustom_1 kf_X11_10 ?_
  refine s_rvB (fun r2 => ?_)
  refine s_grd (fun o3 => ?_)
  refine s_getoN (pc := 4) F_10 3 rfl o3 dX11_keepsCustom_4 (List.mem_of_getElem? (i := 4) rfl) ?_
  refine s_rvB (fun r4 => ?_)
  refine s_iload_n (pc := 7) 1 dX11_keepsCustom_7 rfl rfl ?_
  refine s_grd (fun o5 => ?_)
  refine s_grd (fun i6 => ?_)
  refine s_iald (pc := 8) o5 i6 dX11_keepsCustom_8 ?_
  refine s_istore_n (pc := 9) 2 dX11_keepsCustom_9 rfl (nlt rfl) rfl (L' := [some (.ref (gh (xG X) + a0)), some (.int p1), some (.int (mI M r4 p1.toNatClampNeg))]) rfl ?_
  refine s_bv (fun x7 : Int32 => [some (.ref (gh (xG X) + a0)), some (.int p1), some (.int x7)]) (fun x7 => ?_) rfl
  refine s_aload_n (pc := 10) 0 dX11_keepsCustom_10 rfl rfl ?_
  refine s_geto (pc := 11) F_11 0 rfl o1 dX11_keepsCustom_11 kf_X11_10 ?_
  refine s_rvB (fun r8 => ?_)
  refine s_iload_n (pc := 14) 2 dX11_keepsCustom_14 rfl rfl ?_
  refine s_grd (fun o9 => ?_)
  refine s_bind (fun q10 hq11 => ?_)
  have hC12 := t_X10_hasHouse (l := xl X) (G := xG X) hq11
  refine s_callV (pc := 15) (As := [.int x7]) (st := []) (nlt rfl) (q := (RX10, TX10, 15)) rfl rfl o9 cl_X10_hasHouse wi_X10_hasHouse wl_X10_hasHouse km_X11_119 rfl rfl (nle rfl) (nle rfl) (nle rfl) dX11_keepsCustom_15 hC12 ?_
  show S0 X _ M 18 [some (.ref (gh (xG X) + a0)), some (.int p1), some (.int x7)] [.int q10] _
  refine s_ifne (pc := 18) 23 dX11_keepsCustom_18 rfl ?_ ?_
  · refine s_aload_n (pc := 23) 0 dX11_keepsCustom_23 rfl rfl ?_
    refine s_geto (pc := 24) F_11 4 rfl o1 dX11_keepsCustom_24 kf_X11_39 ?_
    refine s_rvB (fun r13 => ?_)
    refine s_aload_n (pc := 27) 0 dX11_keepsCustom_27 rfl rfl ?_
    refine s_geto (pc := 28) F_11 0 rfl o1 dX11_keepsCustom_28 kf_X11_10 ?_
    refine s_rvB (fun r14 => ?_)
    refine s_grd (fun o15 => ?_)
    refine s_getoN (pc := 31) F_10 4 rfl o15 dX11_keepsCustom_31 (List.mem_of_getElem? (i := 5) rfl) ?_
    refine s_rvB (fun r16 => ?_)
    refine s_iload_n (pc := 34) 1 dX11_keepsCustom_34 rfl rfl ?_
    refine s_grd (fun o17 => ?_)
    refine s_grd (fun i18 => ?_)
    refine s_iald (pc := 35) o17 i18 dX11_keepsCustom_35 ?_
    refine s_grd (fun o19 => ?_)
    refine s_bind (fun q20 hq21 => ?_)
    have hC22 := t_X8_open (l := xl X) (G := xG X) hq21
    refine s_callV (pc := 36) (As := [.int (mI M r16 p1.toNatClampNeg)]) (st := []) (nlt rfl) (q := (RX8, TX8, 7)) rfl rfl o19 cl_X8_open wi_X8_open wl_X8_open km_X11_233 rfl rfl (nle rfl) (nle rfl) (nle rfl) dX11_keepsCustom_36 hC22 ?_
    have h23 := hC22.1 X
    have o24 := h23.ok o1
    show S0 X _ q20 39 [some (.ref (gh (xG X) + a0)), some (.int p1), some (.int x7)] [] _
    refine s_aload_n (pc := 39) 0 dX11_keepsCustom_39 rfl rfl ?_
    refine s_geto (pc := 40) F_11 5 rfl o24 dX11_keepsCustom_40 kf_X11_48 ?_
    refine s_rvB (fun r25 => ?_)
    refine s_aload_n (pc := 43) 0 dX11_keepsCustom_43 rfl rfl ?_
    refine s_geto (pc := 44) F_11 0 rfl o24 dX11_keepsCustom_44 kf_X11_10 ?_
    refine s_rvB (fun r26 => ?_)
    refine s_grd (fun o27 => ?_)
    refine s_getoN (pc := 47) F_10 5 rfl o27 dX11_keepsCustom_47 (List.mem_of_getElem? (i := 7) rfl) ?_
    refine s_rvB (fun r28 => ?_)
    refine s_iload_n (pc := 50) 2 dX11_keepsCustom_50 rfl rfl ?_
    refine s_grd (fun o29 => ?_)
    refine s_grd (fun i30 => ?_)
    refine s_iald (pc := 51) o29 i30 dX11_keepsCustom_51 ?_
    refine s_grd (fun o31 => ?_)
    refine s_bind (fun q32 hq33 => ?_)
    have hC34 := t_X1_listAll (l := xl X) (G := xG X) hq33
    refine s_callV (pc := 52) (As := [.int (mI q20 r28 x7.toNatClampNeg)]) (st := []) (nlt rfl) (q := (RX1, TX1, 8)) rfl rfl o31 cl_X1_listAll wi_X1_listAll wl_X1_listAll km_X11_245 rfl rfl (nle rfl) (nle rfl) (nle rfl) dX11_keepsCustom_52 hC34 ?_
    have h35 := hC34.1 X
    have o36 := h35.ok o24
    show S0 X _ q32 55 [some (.ref (gh (xG X) + a0)), some (.int p1), some (.int x7)] [] _
    refine s_aload_n (pc := 55) 0 dX11_keepsCustom_55 rfl rfl ?_
    refine s_geto (pc := 56) F_11 5 rfl o36 dX11_keepsCustom_56 kf_X11_48 ?_
    refine s_rvB (fun r37 => ?_)
    refine s_aload_n (pc := 59) 0 dX11_keepsCustom_59 rfl rfl ?_
    refine s_geto (pc := 60) F_11 0 rfl o36 dX11_keepsCustom_60 kf_X11_10 ?_
    refine s_rvB (fun r38 => ?_)
    refine s_grd (fun o39 => ?_)
    refine s_getoN (pc := 63) F_10 5 rfl o39 dX11_keepsCustom_63 (List.mem_of_getElem? (i := 7) rfl) ?_
    refine s_rvB (fun r40 => ?_)
    refine s_iload_n (pc := 66) 1 dX11_keepsCustom_66 rfl rfl ?_
    refine s_grd (fun o41 => ?_)
    refine s_grd (fun i42 => ?_)
    refine s_iald (pc := 67) o41 i42 dX11_keepsCustom_67 ?_
    refine s_grd (fun o43 => ?_)
    refine s_bind (fun q44 hq45 => ?_)
    have hC46 := t_X1_hasMade (l := xl X) (G := xG X) hq45
    refine s_callV (pc := 68) (As := [.int (mI q32 r40 p1.toNatClampNeg)]) (st := []) (nlt rfl) (q := (RX1, TX1, 8)) rfl rfl o43 cl_X1_hasMade wi_X1_hasMade wl_X1_hasMade km_X11_368 rfl rfl (nle rfl) (nle rfl) (nle rfl) dX11_keepsCustom_68 hC46 ?_
    show S0 X _ q32 71 [some (.ref (gh (xG X) + a0)), some (.int p1), some (.int x7)] [.int q44] _
    refine s_grd (fun g47 => ?_)
    exact s_zret rfl g47 dX11_keepsCustom_71
  · refine s_iconst (pc := 21) 0 dX11_keepsCustom_21 kc_0 ?_
    exact s_zret rfl rfl dX11_keepsCustom_22
set_option maxRecDepth 100000 in
set_option maxHeartbeats 8000000 in
noncomputable def f_X11_line (M : Mem) (a0 : Nat) (p1 : Int32) (p2 : Int32) (p3 : Int32) : Option (Mem × Int32) :=
  bv (fun (s2 : Unit) => grd (okO M 11 a0) (Option.bind (f_X11_refuse M a0 (-1)) (fun q6 => some (q6.1, q6.2)))) (fun j1 => if p1 < 0 then (j1 ()) else (if 1000000 < p1 then (j1 ()) else (if p3 < 1 then (j1 ()) else (if p3 ≤ 60 then (grd (okO M 11 a0) (Option.bind (mR M a0 0) (fun r12 => grd (okO M 10 r12) (Option.bind (f_X10_hasHouse M r12 p2) (fun q14 => if q14 = 0 then (Option.bind (f_X11_refuse M a0 (-2)) (fun q91 => some (q91.1, q91.2))) else (Option.bind (mR M a0 0) (fun r17 => grd (okO M 10 r17) (Option.bind (mR M r17 5) (fun r19 => grd (okO M 14 r19) (grd (vp_in p2 (mL M r19)) (bv (mI M r19 p2.toNatClampNeg : Int32) (fun x22 => Option.bind (mR M a0 10) (fun r23 => grd (okO M 14 r23) (grd (vp_in 0 (mL M r23)) (bv (wI M r23 (0 : Int32).toNatClampNeg x22) (fun M26 => bv (wI M26 a0 11 (p3 + 1)) (fun M30 => Option.bind (loopO (σ := Mem × Int32 × Int32 × Int32) (ρ := Mem × Int32) (fun s34 => if p3 < s34.2.2.2 then (some (.inr (s34.1, s34.2.2.1))) else (Option.bind (mR s34.1 a0 4) (fun r43 => Option.bind (mR s34.1 a0 0) (fun r44 => grd (okO s34.1 10 r44) (grd (okO s34.1 8 r43) (Option.bind (f_X8_open s34.1 r43 (mmin 999 (((mI s34.1 r44 11) + s34.2.2.2) - 1))) (fun q47 => Option.bind (mR q47 a0 5) (fun r52 => grd (okO q47 1 r52) (Option.bind (f_X1_listAll q47 r52 s34.2.2.1) (fun q54 => Option.bind (mR q54 a0 5) (fun r59 => grd (okO q54 1 r59) (bv (fun (s62 : Int32 × Int32) => Option.bind (mR q54 a0 10) (fun r65 => grd (okO q54 14 r65) (grd (vp_in s34.2.2.2 (mL q54 r65)) (bv (wI q54 r65 s34.2.2.2.toNatClampNeg s62.2) (fun M68 => bv (s34.2.2.2 + 1 : Int32) (fun x72 => some (.inl (M68, s62.1, s62.2, x72)))))))) (fun j61 => if (mI q54 r59 6) ≤ 0 then (j61 (s34.2.1, s34.2.2.1)) else (bv (ir ((s34.2.1 * 1103) + 12345) 1000003 : Int32) (fun x73 => Option.bind (mR q54 a0 5) (fun r74 => Option.bind (mR q54 a0 5) (fun r75 => grd (okO q54 1 r75) (grd (¬ (mI q54 r75 6) = 0) (grd (okO q54 1 r74) (Option.bind (f_X1_madeBy q54 r74 (ir x73 (mI q54 r75 6))) (fun q79 => j61 (x73, q79)))))))))))))))))))))) (M30, p1, x22, 1)) (fun (x41 : Mem × Int32) => Option.bind (f_X6_numberOf x41.2) (fun q83 => Option.bind (f_X11_accept x41.1 a0 q83) (fun q86 => some (q86.1, q86.2))))))))))))))))))))) else (j1 ())))))
abbrev Y_X11_line : Sta := (RX11, "line", cX11_line, 7, (some .int), 7)
set_option maxRecDepth 100000 in
set_option maxHeartbeats 8000000 in
theorem t_X11_line {l : Launch} {G : Gh} {M : Mem} {a0 : Nat} {p1 : Int32} {p2 : Int32} {p3 : Int32} {q : Mem × Int32} (h : f_X11_line M a0 p1 p2 p3 = some q) : Ctr l G yX11_line Y_X11_line M [.ref (gh G + a0), .int p1, .int p2, .int p3] q.1 (some (.int q.2)) := by
  refine Ctr.of (Y := Y_X11_line) (L := [some (.ref (gh G + a0)), some (.int p1), some (.int p2), some (.int p3), none, none, none]) (t := Option.bind (f_X11_line M a0 p1 p2 p3) (fun q => some (q.1, some (.int q.2)))) (by decide) rfl rfl (nle rfl) (Lof_in 3 _ rfl) (fun X hG hl => ?_) (by rw [h]; rfl)
  subst hG
  subst hl
  unfold f_X11_line
  refine s_iload_n (pc := 0) 1 dX11_line_0 rfl rfl ?_
  refine s_join M (fun s2 : Unit => M) 22 (fun s2 : Unit => [some (.ref (gh (xG X) + a0)), none, none, none, none, none, none]) (fun s2 : Unit => []) (fun s2 hs3 => ?_) (fun j1 hj4 => ?_)
  · show S0 X _ M 22 [some (.ref (gh (xG X) + a0)), none, none, none, none, none, none] [] _
    refine s_aload_n (pc := 22) 0 dX11_line_22 rfl rfl ?_
    refine s_iconst (pc := 23) (-1) dX11_line_23 kc_m1 ?_
    refine s_grd (fun o5 => ?_)
    refine s_bind (fun q6 hq7 => ?_)
    have hC8 := t_X11_refuse (l := xl X) (G := xG X) hq7
    refine s_callV (pc := 24) (As := [.int (-1)]) (st := []) (nlt rfl) (q := (RX11, TX11, 16)) rfl rfl o5 cl_X11_refuse wi_X11_refuse wl_X11_refuse km_X11_97 rfl rfl (nle rfl) (nle rfl) (nle rfl) dX11_line_24 hC8 ?_
    have h9 := hC8.1 X
    have o10 := h9.ok o5
    show S0 X _ q6.1 27 [some (.ref (gh (xG X) + a0)), none, none, none, none, none, none] [.int q6.2] _
    exact s_iret rfl dX11_line_27
  · refine s_iflt (pc := 1) 22 dX11_line_1 rfl ?_ ?_
    · exact s_drop (hj4 () Le.rf) (And.intro rfl trivial)
    · refine s_iload_n (pc := 4) 1 dX11_line_4 rfl rfl ?_
      refine s_ldcw (pc := 5) dX11_line_5 ki_X11_346 ?_
      refine s_icgt (pc := 8) 22 dX11_line_8 rfl ?_ ?_
      · exact s_drop (hj4 () Le.rf) (And.intro rfl trivial)
      · refine s_iload_n (pc := 11) 3 dX11_line_11 rfl rfl ?_
        refine s_iconst (pc := 12) 1 dX11_line_12 kc_1 ?_
        refine s_iclt (pc := 13) 22 dX11_line_13 rfl ?_ ?_
        · exact s_drop (hj4 () Le.rf) (And.intro rfl trivial)
        · refine s_iload_n (pc := 16) 3 dX11_line_16 rfl rfl ?_
          refine s_bipush (pc := 17) 60 dX11_line_17 kb_60 ?_
          refine s_icle (pc := 19) 28 dX11_line_19 rfl ?_ ?_
          · refine s_aload_n (pc := 28) 0 dX11_line_28 rfl rfl ?_
            refine s_grd (fun o11 => ?_)
            refine s_geto (pc := 29) F_11 0 rfl o11 dX11_line_29 kf_X11_10 ?_
            refine s_rvB (fun r12 => ?_)
            refine s_iload_n (pc := 32) 2 dX11_line_32 rfl rfl ?_
            refine s_grd (fun o13 => ?_)
            refine s_bind (fun q14 hq15 => ?_)
            have hC16 := t_X10_hasHouse (l := xl X) (G := xG X) hq15
            refine s_callV (pc := 33) (As := [.int p2]) (st := []) (nlt rfl) (q := (RX10, TX10, 15)) rfl rfl o13 cl_X10_hasHouse wi_X10_hasHouse wl_X10_hasHouse km_X11_119 rfl rfl (nle rfl) (nle rfl) (nle rfl) dX11_line_33 hC16 ?_
            show S0 X _ M 36 [some (.ref (gh (xG X) + a0)), some (.int p1), some (.int p2), some (.int p3), none, none, none] [.int q14] _
            refine s_ifne (pc := 36) 46 dX11_line_36 rfl ?_ ?_
            · refine s_iload_n (pc := 46) 1 dX11_line_46 rfl rfl ?_
              refine s_istore (pc := 47) dX11_line_47 (nlt rfl) rfl (L' := [some (.ref (gh (xG X) + a0)), some (.int p1), some (.int p2), some (.int p3), some (.int p1), none, none]) rfl ?_
              refine s_aload_n (pc := 49) 0 dX11_line_49 rfl rfl ?_
              refine s_geto (pc := 50) F_11 0 rfl o11 dX11_line_50 kf_X11_10 ?_
              refine s_rvB (fun r17 => ?_)
              refine s_grd (fun o18 => ?_)
              refine s_getoN (pc := 53) F_10 5 rfl o18 dX11_line_53 (List.mem_of_getElem? (i := 7) rfl) ?_
              refine s_rvB (fun r19 => ?_)
              refine s_iload_n (pc := 56) 2 dX11_line_56 rfl rfl ?_
              refine s_grd (fun o20 => ?_)
              refine s_grd (fun i21 => ?_)
              refine s_iald (pc := 57) o20 i21 dX11_line_57 ?_
              refine s_istore (pc := 58) dX11_line_58 (nlt rfl) rfl (L' := [some (.ref (gh (xG X) + a0)), some (.int p1), some (.int p2), some (.int p3), some (.int p1), some (.int (mI M r19 p2.toNatClampNeg)), none]) rfl ?_
              refine s_bv (fun x22 : Int32 => [some (.ref (gh (xG X) + a0)), some (.int p1), some (.int p2), some (.int p3), some (.int p1), some (.int x22), none]) (fun x22 => ?_) rfl
              refine s_aload_n (pc := 60) 0 dX11_line_60 rfl rfl ?_
              refine s_geto (pc := 61) F_11 10 rfl o11 dX11_line_61 kf_X11_79 ?_
              refine s_rvB (fun r23 => ?_)
              refine s_iconst (pc := 64) 0 dX11_line_64 kc_0 ?_
              refine s_iload (pc := 65) dX11_line_65 rfl ?_
              refine s_grd (fun o24 => ?_)
              refine s_grd (fun i25 => ?_)
              refine s_iast (pc := 67) o24 i25 dX11_line_67 (fun M26 hM27 => ?_)
              have h28 := le_wI hM27
              have o29 := h28.ok o11
              refine s_aload_n (pc := 68) 0 dX11_line_68 rfl rfl ?_
              refine s_iload_n (pc := 69) 3 dX11_line_69 rfl rfl ?_
              refine s_iconst (pc := 70) 1 dX11_line_70 kc_1 ?_
              refine s_iadd (pc := 71) dX11_line_71 ?_
              refine s_puti (pc := 72) F_11 11 rfl o29 rfl rfl rfl dX11_line_72 kf_X11_347 (fun M30 hM31 => ?_)
              have h32 := le_wI hM31
              have o33 := h32.ok o29
              refine s_iconst (pc := 75) 1 dX11_line_75 kc_1 ?_
              refine s_istore (pc := 76) dX11_line_76 (nlt rfl) rfl (L' := [some (.ref (gh (xG X) + a0)), some (.int p1), some (.int p2), some (.int p3), some (.int p1), some (.int x22), some (.int 1)]) rfl ?_
              refine s_drop (L' := [some (.ref (gh (xG X) + a0)), none, none, some (.int p3), some (.int p1), some (.int x22), some (.int 1)]) ?_ (And.intro rfl (And.intro rfl (And.intro rfl (And.intro rfl (And.intro rfl trivial)))))
              refine s_loop1 M30 (fun s34 : Mem × Int32 × Int32 × Int32 => s34.1) (fun s34 : Mem × Int32 × Int32 × Int32 => [some (.ref (gh (xG X) + a0)), none, none, some (.int p3), some (.int s34.2.1), some (.int s34.2.2.1), some (.int s34.2.2.2)]) (fun x41 : Mem × Int32 => x41.1) 178 (fun x41 : Mem × Int32 => [some (.ref (gh (xG X) + a0)), none, none, none, none, some (.int x41.2), none]) (fun x41 hx42 => ?_) (fun T36 R38 hT37 hR39 s34 hs35 => ?_) (M30, p1, x22, 1) Le.rf
              · show S0 X _ x41.1 178 [some (.ref (gh (xG X) + a0)), none, none, none, none, some (.int x41.2), none] [] _
                have o82 := hx42.ok o33
                refine s_aload_n (pc := 178) 0 dX11_line_178 rfl rfl ?_
                refine s_iload (pc := 179) dX11_line_179 rfl ?_
                refine s_bind (fun q83 hq84 => ?_)
                have hC85 := t_X6_numberOf (l := xl X) (G := xG X) (M := x41.1) hq84
                refine s_callS (pc := 181) (As := [.int x41.2]) (st := [.ref (gh (xG X) + a0)]) cl_X6_numberOf wt_X6_numberOf km_X11_146 rfl rfl (nle rfl) (nle rfl) (nle rfl) dX11_line_181 hC85 ?_
                show S0 X _ x41.1 184 [some (.ref (gh (xG X) + a0)), none, none, none, none, some (.int x41.2), none] [.int q83, .ref (gh (xG X) + a0)] _
                refine s_bind (fun q86 hq87 => ?_)
                have hC88 := t_X11_accept (l := xl X) (G := xG X) hq87
                refine s_callV (pc := 184) (As := [.int q83]) (st := []) (nlt rfl) (q := (RX11, TX11, 16)) rfl rfl o82 cl_X11_accept wi_X11_accept wl_X11_accept km_X11_108 rfl rfl (nle rfl) (nle rfl) (nle rfl) dX11_line_184 hC88 ?_
                have h89 := hC88.1 X
                have o90 := h89.ok o82
                show S0 X _ q86.1 187 [some (.ref (gh (xG X) + a0)), none, none, none, none, some (.int x41.2), none] [.int q86.2] _
                exact s_iret rfl dX11_line_187
              · show S0 X _ s34.1 78 [some (.ref (gh (xG X) + a0)), none, none, some (.int p3), some (.int s34.2.1), some (.int s34.2.2.1), some (.int s34.2.2.2)] [] _
                have o40 := hs35.ok o33
                refine s_iload (pc := 78) dX11_line_78 rfl ?_
                refine s_iload_n (pc := 80) 3 dX11_line_80 rfl rfl ?_
                refine s_icgt (pc := 81) 178 dX11_line_81 rfl ?_ ?_
                · exact s_drop (hR39 (s34.1, s34.2.2.1) hs35) (And.intro rfl (And.intro rfl trivial))
                · refine s_aload_n (pc := 84) 0 dX11_line_84 rfl rfl ?_
                  refine s_geto (pc := 85) F_11 4 rfl o40 dX11_line_85 kf_X11_39 ?_
                  refine s_rvB (fun r43 => ?_)
                  refine s_sipush (pc := 88) 999 dX11_line_88 ks_999 ?_
                  refine s_aload_n (pc := 91) 0 dX11_line_91 rfl rfl ?_
                  refine s_geto (pc := 92) F_11 0 rfl o40 dX11_line_92 kf_X11_10 ?_
                  refine s_rvB (fun r44 => ?_)
                  refine s_grd (fun o45 => ?_)
                  refine s_getiN (pc := 95) F_10 11 rfl o45 dX11_line_95 (List.mem_of_getElem? (i := 14) rfl) ?_
                  refine s_iload (pc := 98) dX11_line_98 rfl ?_
                  refine s_iadd (pc := 100) dX11_line_100 ?_
                  refine s_iconst (pc := 101) 1 dX11_line_101 kc_1 ?_
                  refine s_isub (pc := 102) dX11_line_102 ?_
                  refine s_mmin (pc := 103) km_X11_350 wt_J9_min_7cf53 wn_J9 wc_mmin (nle rfl) (nle rfl) dX11_line_103 ?_
                  refine s_grd (fun o46 => ?_)
                  refine s_bind (fun q47 hq48 => ?_)
                  have hC49 := t_X8_open (l := xl X) (G := xG X) hq48
                  refine s_callV (pc := 106) (As := [.int (mmin 999 (((mI s34.1 r44 11) + s34.2.2.2) - 1))]) (st := []) (nlt rfl) (q := (RX8, TX8, 7)) rfl rfl o46 cl_X8_open wi_X8_open wl_X8_open km_X11_233 rfl rfl (nle rfl) (nle rfl) (nle rfl) dX11_line_106 hC49 ?_
                  have h50 := hC49.1 X
                  have o51 := h50.ok o40
                  show S0 X _ q47 109 [some (.ref (gh (xG X) + a0)), none, none, some (.int p3), some (.int s34.2.1), some (.int s34.2.2.1), some (.int s34.2.2.2)] [] _
                  refine s_aload_n (pc := 109) 0 dX11_line_109 rfl rfl ?_
                  refine s_geto (pc := 110) F_11 5 rfl o51 dX11_line_110 kf_X11_48 ?_
                  refine s_rvB (fun r52 => ?_)
                  refine s_iload (pc := 113) dX11_line_113 rfl ?_
                  refine s_grd (fun o53 => ?_)
                  refine s_bind (fun q54 hq55 => ?_)
                  have hC56 := t_X1_listAll (l := xl X) (G := xG X) hq55
                  refine s_callV (pc := 115) (As := [.int s34.2.2.1]) (st := []) (nlt rfl) (q := (RX1, TX1, 8)) rfl rfl o53 cl_X1_listAll wi_X1_listAll wl_X1_listAll km_X11_245 rfl rfl (nle rfl) (nle rfl) (nle rfl) dX11_line_115 hC56 ?_
                  have h57 := hC56.1 X
                  have o58 := h57.ok o51
                  show S0 X _ q54 118 [some (.ref (gh (xG X) + a0)), none, none, some (.int p3), some (.int s34.2.1), some (.int s34.2.2.1), some (.int s34.2.2.2)] [] _
                  refine s_aload_n (pc := 118) 0 dX11_line_118 rfl rfl ?_
                  refine s_geto (pc := 119) F_11 5 rfl o58 dX11_line_119 kf_X11_48 ?_
                  refine s_rvB (fun r59 => ?_)
                  refine s_grd (fun o60 => ?_)
                  refine s_geti (pc := 122) F_1 6 rfl o60 dX11_line_122 kf_X11_355 ?_
                  refine s_join q54 (fun s62 : Int32 × Int32 => q54) 163 (fun s62 : Int32 × Int32 => [some (.ref (gh (xG X) + a0)), none, none, some (.int p3), some (.int s62.1), some (.int s62.2), some (.int s34.2.2.2)]) (fun s62 : Int32 × Int32 => []) (fun s62 hs63 => ?_) (fun j61 hj64 => ?_)
                  · show S0 X _ q54 163 [some (.ref (gh (xG X) + a0)), none, none, some (.int p3), some (.int s62.1), some (.int s62.2), some (.int s34.2.2.2)] [] _
                    refine s_aload_n (pc := 163) 0 dX11_line_163 rfl rfl ?_
                    refine s_geto (pc := 164) F_11 10 rfl o58 dX11_line_164 kf_X11_79 ?_
                    refine s_rvB (fun r65 => ?_)
                    refine s_iload (pc := 167) dX11_line_167 rfl ?_
                    refine s_iload (pc := 169) dX11_line_169 rfl ?_
                    refine s_grd (fun o66 => ?_)
                    refine s_grd (fun i67 => ?_)
                    refine s_iast (pc := 171) o66 i67 dX11_line_171 (fun M68 hM69 => ?_)
                    have h70 := le_wI hM69
                    have o71 := h70.ok o58
                    refine s_iinc (pc := 172) dX11_line_172 rfl (v := s34.2.2.2 + 1) (congrArg (fun z : Int32 => s34.2.2.2 + z) kc_1) (nlt rfl) rfl (L' := [some (.ref (gh (xG X) + a0)), none, none, some (.int p3), some (.int s62.1), some (.int s62.2), some (.int (s34.2.2.2 + 1))]) rfl ?_
                    refine s_bv (fun x72 : Int32 => [some (.ref (gh (xG X) + a0)), none, none, some (.int p3), some (.int s62.1), some (.int s62.2), some (.int x72)]) (fun x72 => ?_) rfl
                    refine s_goto (pc := 175) 78 dX11_line_175 rfl ?_
                    exact s_drop (hT37 (M68, s62.1, s62.2, x72) (hs35.tr (h50.tr (h57.tr h70)))) (And.intro rfl (And.intro rfl (And.intro rfl (And.intro rfl (And.intro rfl trivial)))))
                  · refine s_ifle (pc := 125) 163 dX11_line_125 rfl ?_ ?_
                    · exact s_drop (hj64 (s34.2.1, s34.2.2.1) Le.rf) (And.intro rfl (And.intro rfl (And.intro rfl (And.intro rfl (And.intro rfl trivial)))))
                    · refine s_iload (pc := 128) dX11_line_128 rfl ?_
                      refine s_sipush (pc := 130) 1103 dX11_line_130 ks_1103 ?_
                      refine s_imul (pc := 133) dX11_line_133 ?_
                      refine s_sipush (pc := 134) 12345 dX11_line_134 ks_12345 ?_
                      refine s_iadd (pc := 137) dX11_line_137 ?_
                      refine s_ldcw (pc := 138) dX11_line_138 ki_X11_358 ?_
                      refine s_irem (pc := 141) dX11_line_141 (by decide) ?_
                      refine s_istore (pc := 142) dX11_line_142 (nlt rfl) rfl (L' := [some (.ref (gh (xG X) + a0)), none, none, some (.int p3), some (.int (ir ((s34.2.1 * 1103) + 12345) 1000003)), some (.int s34.2.2.1), some (.int s34.2.2.2)]) rfl ?_
                      refine s_bv (fun x73 : Int32 => [some (.ref (gh (xG X) + a0)), none, none, some (.int p3), some (.int x73), some (.int s34.2.2.1), some (.int s34.2.2.2)]) (fun x73 => ?_) rfl
                      refine s_aload_n (pc := 144) 0 dX11_line_144 rfl rfl ?_
                      refine s_geto (pc := 145) F_11 5 rfl o58 dX11_line_145 kf_X11_48 ?_
                      refine s_rvB (fun r74 => ?_)
                      refine s_iload (pc := 148) dX11_line_148 rfl ?_
                      refine s_aload_n (pc := 150) 0 dX11_line_150 rfl rfl ?_
                      refine s_geto (pc := 151) F_11 5 rfl o58 dX11_line_151 kf_X11_48 ?_
                      refine s_rvB (fun r75 => ?_)
                      refine s_grd (fun o76 => ?_)
                      refine s_geti (pc := 154) F_1 6 rfl o76 dX11_line_154 kf_X11_355 ?_
                      refine s_grd (fun g77 => ?_)
                      refine s_irem (pc := 157) dX11_line_157 g77 ?_
                      refine s_grd (fun o78 => ?_)
                      refine s_bind (fun q79 hq80 => ?_)
                      have hC81 := t_X1_madeBy (l := xl X) (G := xG X) hq80
                      refine s_callV (pc := 158) (As := [.int (ir x73 (mI q54 r75 6))]) (st := []) (nlt rfl) (q := (RX1, TX1, 8)) rfl rfl o78 cl_X1_madeBy wi_X1_madeBy wl_X1_madeBy km_X11_359 rfl rfl (nle rfl) (nle rfl) (nle rfl) dX11_line_158 hC81 ?_
                      show S0 X _ q54 161 [some (.ref (gh (xG X) + a0)), none, none, some (.int p3), some (.int x73), some (.int s34.2.2.1), some (.int s34.2.2.2)] [.int q79] _
                      refine s_istore (pc := 161) dX11_line_161 (nlt rfl) rfl (L' := [some (.ref (gh (xG X) + a0)), none, none, some (.int p3), some (.int x73), some (.int q79), some (.int s34.2.2.2)]) rfl ?_
                      exact s_drop (hj64 (x73, q79) Le.rf) (And.intro rfl (And.intro rfl (And.intro rfl (And.intro rfl (And.intro rfl trivial)))))
            · refine s_aload_n (pc := 39) 0 dX11_line_39 rfl rfl ?_
              refine s_bipush (pc := 40) (-2) dX11_line_40 kb_m2 ?_
              refine s_bind (fun q91 hq92 => ?_)
              have hC93 := t_X11_refuse (l := xl X) (G := xG X) hq92
              refine s_callV (pc := 42) (As := [.int (-2)]) (st := []) (nlt rfl) (q := (RX11, TX11, 16)) rfl rfl o11 cl_X11_refuse wi_X11_refuse wl_X11_refuse km_X11_97 rfl rfl (nle rfl) (nle rfl) (nle rfl) dX11_line_42 hC93 ?_
              have h94 := hC93.1 X
              have o95 := h94.ok o11
              show S0 X _ q91.1 45 [some (.ref (gh (xG X) + a0)), some (.int p1), some (.int p2), some (.int p3), none, none, none] [.int q91.2] _
              exact s_iret rfl dX11_line_45
          · exact s_drop (hj4 () Le.rf) (And.intro rfl trivial)
set_option maxRecDepth 100000 in
set_option maxHeartbeats 8000000 in
noncomputable def f_X11_runOnce (M : Mem) (a0 : Nat) (a1 : Nat) (p2 : Int32) : Option (Mem × Int32) :=
  grd (okO M 11 a0) (Option.bind (mR M a0 3) (fun r2 => grd (okO M 3 r2) (Option.bind (mR M r2 0) (fun r4 => Option.bind (mR M a0 0) (fun r5 => grd (okO M 10 r5) (grd (okO M 14 r4) (grd (vp_in 0 (mL M r4)) (bv (wI M r4 (0 : Int32).toNatClampNeg (mI M r5 11)) (fun M9 => Option.bind (mR M9 a0 0) (fun r14 => grd (okO M9 10 r14) (grd (vp_in 1 (mL M9 r4)) (bv (wI M9 r4 (1 : Int32).toNatClampNeg (mI M9 r14 8)) (fun M17 => grd (okO M17 9 a1) (Option.bind (f_X9_told M17 a1 p2 2) (fun q23 => bv (fun (s27 : Mem) => Option.bind (f_X9_told s27 a1 p2 0) (fun q33 => Option.bind (mR s27 a0 3) (fun r36 => Option.bind (mR s27 a1 1) (fun r37 => Option.bind (f_X9_told s27 a1 p2 3) (fun q38 => grd (okO s27 3 r36) (Option.bind (f_X3_run s27 r36 r37 q38) (fun q42 => bv (fun (s50 : Mem × Int64) => bv (fun (s57 : Mem × Int64) => if (lg_cmp q42.2 (-4611686018427387904)) = 0 then (some (s57.1, (-3))) else (if (lg_cmp s50.2 (-4611686018427387904)) = 0 then (some (s57.1, (-3))) else (if (lg_cmp s57.2 (-4611686018427387904)) = 0 then (some (s57.1, (-3))) else (grd (vp_in 2 (mL s57.1 r4)) (bv (wI s57.1 r4 (2 : Int32).toNatClampNeg ((mI s57.1 r4 (2 : Int32).toNatClampNeg) + 1)) (fun M63 => if q33 = 5 then (Option.bind (f_X11_turnYear M63 a0 q42.2.toInt32) (fun q94 => some (q94.1, q94.2))) else (Option.bind (f_X11_giveBirth M63 a0 q42.2.toInt32 q33 s57.2.toInt32 s50.2.toInt32) (fun q68 => if 0 ≤ q68.2 then (Option.bind (mR q68.1 a0 0) (fun r74 => grd (okO q68.1 10 r74) (Option.bind (mR q68.1 r74 5) (fun r76 => grd (okO q68.1 14 r76) (grd (vp_in q68.2 (mL q68.1 r76)) (Option.bind (f_X6_numberOf (mI q68.1 r76 q68.2.toNatClampNeg)) (fun q79 => grd (vp_in 3 (mL q68.1 r4)) (bv (wI q68.1 r4 (3 : Int32).toNatClampNeg q79) (fun M83 => Option.bind (f_X11_tellHouse M83 a0 q68.2) (fun q88 => some (q88, 0))))))))))) else (if q68.2 = (-5) then (some (q68.1, (-5))) else (some (q68.1, (-3)))))))))))) (fun j56 => if q33 = 5 then (j56 (s50.1, 0)) else (Option.bind (mR s50.1 a0 3) (fun r100 => Option.bind (mR s50.1 a1 1) (fun r101 => Option.bind (f_X9_told s50.1 a1 p2 5) (fun q102 => grd (okO s50.1 3 r100) (Option.bind (f_X3_run s50.1 r100 r101 q102) (fun q106 => j56 (q106.1, q106.2))))))))) (fun j49 => if q33 = 1 then (Option.bind (mR q42.1 a0 3) (fun r113 => Option.bind (mR q42.1 a1 1) (fun r114 => Option.bind (f_X9_told q42.1 a1 p2 4) (fun q115 => grd (okO q42.1 3 r113) (Option.bind (f_X3_run q42.1 r113 r114 q115) (fun q119 => j49 (q119.1, q119.2))))))) else (j49 (q42.1, 0)))))))))) (fun j26 => if q23 = (-1) then (j26 M17) else (Option.bind (mR M17 a0 3) (fun r126 => Option.bind (mR M17 a1 1) (fun r127 => grd (okO M17 3 r126) (Option.bind (f_X3_run M17 r126 r127 q23) (fun q129 => if (lg_cmp q129.2 1) = 0 then (j26 q129.1) else (some (q129.1, 0)))))))))))))))))))))))
abbrev Y_X11_runOnce : Sta := (RX11, "runOnce", cX11_runOnce, 13, (some .int), 7)
set_option maxRecDepth 100000 in
set_option maxHeartbeats 8000000 in
theorem t_X11_runOnce {l : Launch} {G : Gh} {M : Mem} {a0 : Nat} {a1 : Nat} {p2 : Int32} {q : Mem × Int32} (h : f_X11_runOnce M a0 a1 p2 = some q) : Ctr l G yX11_runOnce Y_X11_runOnce M [.ref (gh G + a0), .ref (gh G + a1), .int p2] q.1 (some (.int q.2)) := by
  refine Ctr.of (Y := Y_X11_runOnce) (L := [some (.ref (gh G + a0)), some (.ref (gh G + a1)), some (.int p2), none, none, none, none, none, none, none, none, none, none]) (t := Option.bind (f_X11_runOnce M a0 a1 p2) (fun q => some (q.1, some (.int q.2)))) (by decide) rfl rfl (nle rfl) (Lof_in 10 _ rfl) (fun X hG hl => ?_) (by rw [h]; rfl)
  subst hG
  subst hl
  unfold f_X11_runOnce
  refine s_aload_n (pc := 0) 0 dX11_runOnce_0 rfl rfl ?_
  refine s_grd (fun o1 => ?_)
  refine s_geto (pc := 1) F_11 3 rfl o1 dX11_runOnce_1 kf_X11_30 ?_
  refine s_rvB (fun r2 => ?_)
  refine s_grd (fun o3 => ?_)
  refine s_geto (pc := 4) F_3 0 rfl o3 dX11_runOnce_4 kf_X11_224 ?_
  refine s_rvB (fun r4 => ?_)
  refine s_astore_n (pc := 7) 3 dX11_runOnce_7 rfl (nlt rfl) rfl (L' := [some (.ref (gh (xG X) + a0)), some (.ref (gh (xG X) + a1)), some (.int p2), some (.ref (gh (xG X) + r4)), none, none, none, none, none, none, none, none, none]) rfl ?_
  refine s_aload_n (pc := 8) 3 dX11_runOnce_8 rfl rfl ?_
  refine s_iconst (pc := 9) 0 dX11_runOnce_9 kc_0 ?_
  refine s_aload_n (pc := 10) 0 dX11_runOnce_10 rfl rfl ?_
  refine s_geto (pc := 11) F_11 0 rfl o1 dX11_runOnce_11 kf_X11_10 ?_
  refine s_rvB (fun r5 => ?_)
  refine s_grd (fun o6 => ?_)
  refine s_getiN (pc := 14) F_10 11 rfl o6 dX11_runOnce_14 (List.mem_of_getElem? (i := 14) rfl) ?_
  refine s_grd (fun o7 => ?_)
  refine s_grd (fun i8 => ?_)
  refine s_iast (pc := 17) o7 i8 dX11_runOnce_17 (fun M9 hM10 => ?_)
  have h11 := le_wI hM10
  have o12 := h11.ok o1
  have o13 := h11.ok o7
  refine s_aload_n (pc := 18) 3 dX11_runOnce_18 rfl rfl ?_
  refine s_iconst (pc := 19) 1 dX11_runOnce_19 kc_1 ?_
  refine s_aload_n (pc := 20) 0 dX11_runOnce_20 rfl rfl ?_
  refine s_geto (pc := 21) F_11 0 rfl o12 dX11_runOnce_21 kf_X11_10 ?_
  refine s_rvB (fun r14 => ?_)
  refine s_grd (fun o15 => ?_)
  refine s_getiN (pc := 24) F_10 8 rfl o15 dX11_runOnce_24 (List.mem_of_getElem? (i := 9) rfl) ?_
  refine s_grd (fun i16 => ?_)
  refine s_iast (pc := 27) o13 i16 dX11_runOnce_27 (fun M17 hM18 => ?_)
  have h19 := le_wI hM18
  have o20 := h19.ok o12
  have o21 := h19.ok o13
  refine s_aload_n (pc := 28) 1 dX11_runOnce_28 rfl rfl ?_
  refine s_iload_n (pc := 29) 2 dX11_runOnce_29 rfl rfl ?_
  refine s_iconst (pc := 30) 2 dX11_runOnce_30 kc_2 ?_
  refine s_grd (fun o22 => ?_)
  refine s_bind (fun q23 hq24 => ?_)
  have hC25 := t_X9_told (l := xl X) (G := xG X) hq24
  refine s_callV (pc := 31) (As := [.int p2, .int 2]) (st := []) (nlt rfl) (q := (RX9, TX9, 5)) rfl rfl o22 cl_X9_told wi_X9_told wl_X9_told km_X11_217 rfl rfl (nle rfl) (nle rfl) (nle rfl) dX11_runOnce_31 hC25 ?_
  show S0 X _ M17 34 [some (.ref (gh (xG X) + a0)), some (.ref (gh (xG X) + a1)), some (.int p2), some (.ref (gh (xG X) + r4)), none, none, none, none, none, none, none, none, none] [.int q23] _
  refine s_istore (pc := 34) dX11_runOnce_34 (nlt rfl) rfl (L' := [some (.ref (gh (xG X) + a0)), some (.ref (gh (xG X) + a1)), some (.int p2), some (.ref (gh (xG X) + r4)), some (.int q23), none, none, none, none, none, none, none, none]) rfl ?_
  refine s_iload (pc := 36) dX11_runOnce_36 rfl ?_
  refine s_iconst (pc := 38) (-1) dX11_runOnce_38 kc_m1 ?_
  refine s_join M17 (fun s27 : Mem => s27) 62 (fun s27 : Mem => [some (.ref (gh (xG X) + a0)), some (.ref (gh (xG X) + a1)), some (.int p2), some (.ref (gh (xG X) + r4)), none, none, none, none, none, none, none, none, none]) (fun s27 : Mem => []) (fun s27 hs28 => ?_) (fun j26 hj29 => ?_)
  · show S0 X _ s27 62 [some (.ref (gh (xG X) + a0)), some (.ref (gh (xG X) + a1)), some (.int p2), some (.ref (gh (xG X) + r4)), none, none, none, none, none, none, none, none, none] [] _
    have o30 := hs28.ok o20
    have o31 := hs28.ok o21
    have o32 := hs28.ok o22
    refine s_aload_n (pc := 62) 1 dX11_runOnce_62 rfl rfl ?_
    refine s_iload_n (pc := 63) 2 dX11_runOnce_63 rfl rfl ?_
    refine s_iconst (pc := 64) 0 dX11_runOnce_64 kc_0 ?_
    refine s_bind (fun q33 hq34 => ?_)
    have hC35 := t_X9_told (l := xl X) (G := xG X) hq34
    refine s_callV (pc := 65) (As := [.int p2, .int 0]) (st := []) (nlt rfl) (q := (RX9, TX9, 5)) rfl rfl o32 cl_X9_told wi_X9_told wl_X9_told km_X11_217 rfl rfl (nle rfl) (nle rfl) (nle rfl) dX11_runOnce_65 hC35 ?_
    show S0 X _ s27 68 [some (.ref (gh (xG X) + a0)), some (.ref (gh (xG X) + a1)), some (.int p2), some (.ref (gh (xG X) + r4)), none, none, none, none, none, none, none, none, none] [.int q33] _
    refine s_istore (pc := 68) dX11_runOnce_68 (nlt rfl) rfl (L' := [some (.ref (gh (xG X) + a0)), some (.ref (gh (xG X) + a1)), some (.int p2), some (.ref (gh (xG X) + r4)), none, some (.int q33), none, none, none, none, none, none, none]) rfl ?_
    refine s_aload_n (pc := 70) 0 dX11_runOnce_70 rfl rfl ?_
    refine s_geto (pc := 71) F_11 3 rfl o30 dX11_runOnce_71 kf_X11_30 ?_
    refine s_rvB (fun r36 => ?_)
    refine s_aload_n (pc := 74) 1 dX11_runOnce_74 rfl rfl ?_
    refine s_geto (pc := 75) F_9 1 rfl o32 dX11_runOnce_75 kf_X11_383 ?_
    refine s_rvB (fun r37 => ?_)
    refine s_aload_n (pc := 78) 1 dX11_runOnce_78 rfl rfl ?_
    refine s_iload_n (pc := 79) 2 dX11_runOnce_79 rfl rfl ?_
    refine s_iconst (pc := 80) 3 dX11_runOnce_80 kc_3 ?_
    refine s_bind (fun q38 hq39 => ?_)
    have hC40 := t_X9_told (l := xl X) (G := xG X) hq39
    refine s_callV (pc := 81) (As := [.int p2, .int 3]) (st := [.ref (gh (xG X) + r37), .ref (gh (xG X) + r36)]) (nlt rfl) (q := (RX9, TX9, 5)) rfl rfl o32 cl_X9_told wi_X9_told wl_X9_told km_X11_217 rfl rfl (nle rfl) (nle rfl) (nle rfl) dX11_runOnce_81 hC40 ?_
    show S0 X _ s27 84 [some (.ref (gh (xG X) + a0)), some (.ref (gh (xG X) + a1)), some (.int p2), some (.ref (gh (xG X) + r4)), none, some (.int q33), none, none, none, none, none, none, none] [.int q38, .ref (gh (xG X) + r37), .ref (gh (xG X) + r36)] _
    refine s_grd (fun o41 => ?_)
    refine s_bind (fun q42 hq43 => ?_)
    have hC44 := t_X3_run (l := xl X) (G := xG X) hq43
    refine s_callV (pc := 84) (As := [.ref (gh (xG X) + r37), .int q38]) (st := []) (nlt rfl) (q := (RX3, TX3, 2)) rfl rfl o41 cl_X3_run wi_X3_run wl_X3_run km_X11_386 rfl rfl (nle rfl) (nle rfl) (nle rfl) dX11_runOnce_84 hC44 ?_
    have h45 := hC44.1 X
    have o46 := h45.ok o30
    have o47 := h45.ok o31
    have o48 := h45.ok o32
    show S0 X _ q42.1 87 [some (.ref (gh (xG X) + a0)), some (.ref (gh (xG X) + a1)), some (.int p2), some (.ref (gh (xG X) + r4)), none, some (.int q33), none, none, none, none, none, none, none] [.long q42.2] _
    refine s_lstore (pc := 87) dX11_runOnce_87 (nlt rfl) rfl (L' := [some (.ref (gh (xG X) + a0)), some (.ref (gh (xG X) + a1)), some (.int p2), some (.ref (gh (xG X) + r4)), none, some (.int q33), some (.long q42.2), none, none, none, none, none, none]) rfl ?_
    refine s_iload (pc := 89) dX11_runOnce_89 rfl ?_
    refine s_iconst (pc := 91) 1 dX11_runOnce_91 kc_1 ?_
    refine s_join q42.1 (fun s50 : Mem × Int64 => s50.1) 116 (fun s50 : Mem × Int64 => [some (.ref (gh (xG X) + a0)), some (.ref (gh (xG X) + a1)), some (.int p2), some (.ref (gh (xG X) + r4)), none, some (.int q33), some (.long q42.2), none, none, none, none, none, none]) (fun s50 : Mem × Int64 => [.long s50.2]) (fun s50 hs51 => ?_) (fun j49 hj52 => ?_)
    · show S0 X _ s50.1 116 [some (.ref (gh (xG X) + a0)), some (.ref (gh (xG X) + a1)), some (.int p2), some (.ref (gh (xG X) + r4)), none, some (.int q33), some (.long q42.2), none, none, none, none, none, none] [.long s50.2] _
      have o53 := hs51.ok o46
      have o54 := hs51.ok o47
      have o55 := hs51.ok o48
      refine s_lstore (pc := 116) dX11_runOnce_116 (nlt rfl) rfl (L' := [some (.ref (gh (xG X) + a0)), some (.ref (gh (xG X) + a1)), some (.int p2), some (.ref (gh (xG X) + r4)), none, some (.int q33), some (.long q42.2), none, some (.long s50.2), none, none, none, none]) rfl ?_
      refine s_iload (pc := 118) dX11_runOnce_118 rfl ?_
      refine s_iconst (pc := 120) 5 dX11_runOnce_120 kc_5 ?_
      refine s_join s50.1 (fun s57 : Mem × Int64 => s57.1) 145 (fun s57 : Mem × Int64 => [some (.ref (gh (xG X) + a0)), none, none, some (.ref (gh (xG X) + r4)), none, some (.int q33), some (.long q42.2), none, some (.long s50.2), none, none, none, none]) (fun s57 : Mem × Int64 => [.long s57.2]) (fun s57 hs58 => ?_) (fun j56 hj59 => ?_)
      · show S0 X _ s57.1 145 [some (.ref (gh (xG X) + a0)), none, none, some (.ref (gh (xG X) + r4)), none, some (.int q33), some (.long q42.2), none, some (.long s50.2), none, none, none, none] [.long s57.2] _
        have o60 := hs58.ok o53
        have o61 := hs58.ok o54
        refine s_lstore (pc := 145) dX11_runOnce_145 (nlt rfl) rfl (L' := [some (.ref (gh (xG X) + a0)), none, none, some (.ref (gh (xG X) + r4)), none, some (.int q33), some (.long q42.2), none, some (.long s50.2), none, some (.long s57.2), none, none]) rfl ?_
        refine s_lload (pc := 147) dX11_runOnce_147 rfl ?_
        refine s_ldc2 (pc := 149) dX11_runOnce_149 kl_X11_390 ?_
        refine s_lcmp (pc := 152) dX11_runOnce_152 ?_
        refine s_ifeq (pc := 153) 174 dX11_runOnce_153 rfl ?_ ?_
        · refine s_bipush (pc := 174) (-3) dX11_runOnce_174 kb_m3 ?_
          exact s_iret rfl dX11_runOnce_176
        · refine s_lload (pc := 156) dX11_runOnce_156 rfl ?_
          refine s_ldc2 (pc := 158) dX11_runOnce_158 kl_X11_390 ?_
          refine s_lcmp (pc := 161) dX11_runOnce_161 ?_
          refine s_ifeq (pc := 162) 174 dX11_runOnce_162 rfl ?_ ?_
          · refine s_bipush (pc := 174) (-3) dX11_runOnce_174 kb_m3 ?_
            exact s_iret rfl dX11_runOnce_176
          · refine s_lload (pc := 165) dX11_runOnce_165 rfl ?_
            refine s_ldc2 (pc := 167) dX11_runOnce_167 kl_X11_390 ?_
            refine s_lcmp (pc := 170) dX11_runOnce_170 ?_
            refine s_ifne (pc := 171) 177 dX11_runOnce_171 rfl ?_ ?_
            · refine s_aload_n (pc := 177) 3 dX11_runOnce_177 rfl rfl ?_
              refine s_iconst (pc := 178) 2 dX11_runOnce_178 kc_2 ?_
              refine s_dup2 (pc := 179) dX11_runOnce_179 rfl rfl ?_
              refine s_grd (fun i62 => ?_)
              refine s_iald (pc := 180) o61 i62 dX11_runOnce_180 ?_
              refine s_iconst (pc := 181) 1 dX11_runOnce_181 kc_1 ?_
              refine s_iadd (pc := 182) dX11_runOnce_182 ?_
              refine s_iast (pc := 183) o61 i62 dX11_runOnce_183 (fun M63 hM64 => ?_)
              have h65 := le_wI hM64
              have o66 := h65.ok o60
              have o67 := h65.ok o61
              refine s_iload (pc := 184) dX11_runOnce_184 rfl ?_
              refine s_iconst (pc := 186) 5 dX11_runOnce_186 kc_5 ?_
              refine s_icne (pc := 187) 198 dX11_runOnce_187 rfl ?_ ?_
              · refine s_aload_n (pc := 198) 0 dX11_runOnce_198 rfl rfl ?_
                refine s_lload (pc := 199) dX11_runOnce_199 rfl ?_
                refine s_l2i (pc := 201) dX11_runOnce_201 ?_
                refine s_iload (pc := 202) dX11_runOnce_202 rfl ?_
                refine s_lload (pc := 204) dX11_runOnce_204 rfl ?_
                refine s_l2i (pc := 206) dX11_runOnce_206 ?_
                refine s_lload (pc := 207) dX11_runOnce_207 rfl ?_
                refine s_l2i (pc := 209) dX11_runOnce_209 ?_
                refine s_bind (fun q68 hq69 => ?_)
                have hC70 := t_X11_giveBirth (l := xl X) (G := xG X) hq69
                refine s_callV (pc := 210) (As := [.int q42.2.toInt32, .int q33, .int s57.2.toInt32, .int s50.2.toInt32]) (st := []) (nlt rfl) (q := (RX11, TX11, 16)) rfl rfl o66 cl_X11_giveBirth wi_X11_giveBirth wl_X11_giveBirth km_X11_132 rfl rfl (nle rfl) (nle rfl) (nle rfl) dX11_runOnce_210 hC70 ?_
                have h71 := hC70.1 X
                have o72 := h71.ok o66
                have o73 := h71.ok o67
                show S0 X _ q68.1 213 [some (.ref (gh (xG X) + a0)), none, none, some (.ref (gh (xG X) + r4)), none, some (.int q33), some (.long q42.2), none, some (.long s50.2), none, some (.long s57.2), none, none] [.int q68.2] _
                refine s_istore (pc := 213) dX11_runOnce_213 (nlt rfl) rfl (L' := [some (.ref (gh (xG X) + a0)), none, none, some (.ref (gh (xG X) + r4)), none, some (.int q33), some (.long q42.2), none, some (.long s50.2), none, some (.long s57.2), none, some (.int q68.2)]) rfl ?_
                refine s_iload (pc := 215) dX11_runOnce_215 rfl ?_
                refine s_ifge (pc := 217) 235 dX11_runOnce_217 rfl ?_ ?_
                · refine s_aload_n (pc := 235) 3 dX11_runOnce_235 rfl rfl ?_
                  refine s_iconst (pc := 236) 3 dX11_runOnce_236 kc_3 ?_
                  refine s_aload_n (pc := 237) 0 dX11_runOnce_237 rfl rfl ?_
                  refine s_geto (pc := 238) F_11 0 rfl o72 dX11_runOnce_238 kf_X11_10 ?_
                  refine s_rvB (fun r74 => ?_)
                  refine s_grd (fun o75 => ?_)
                  refine s_getoN (pc := 241) F_10 5 rfl o75 dX11_runOnce_241 (List.mem_of_getElem? (i := 7) rfl) ?_
                  refine s_rvB (fun r76 => ?_)
                  refine s_iload (pc := 244) dX11_runOnce_244 rfl ?_
                  refine s_grd (fun o77 => ?_)
                  refine s_grd (fun i78 => ?_)
                  refine s_iald (pc := 246) o77 i78 dX11_runOnce_246 ?_
                  refine s_bind (fun q79 hq80 => ?_)
                  have hC81 := t_X6_numberOf (l := xl X) (G := xG X) (M := q68.1) hq80
                  refine s_callS (pc := 247) (As := [.int (mI q68.1 r76 q68.2.toNatClampNeg)]) (st := [.int 3, .ref (gh (xG X) + r4)]) cl_X6_numberOf wt_X6_numberOf km_X11_146 rfl rfl (nle rfl) (nle rfl) (nle rfl) dX11_runOnce_247 hC81 ?_
                  show S0 X _ q68.1 250 [some (.ref (gh (xG X) + a0)), none, none, some (.ref (gh (xG X) + r4)), none, some (.int q33), some (.long q42.2), none, some (.long s50.2), none, some (.long s57.2), none, some (.int q68.2)] [.int q79, .int 3, .ref (gh (xG X) + r4)] _
                  refine s_grd (fun i82 => ?_)
                  refine s_iast (pc := 250) o73 i82 dX11_runOnce_250 (fun M83 hM84 => ?_)
                  have h85 := le_wI hM84
                  have o86 := h85.ok o72
                  have o87 := h85.ok o73
                  refine s_aload_n (pc := 251) 0 dX11_runOnce_251 rfl rfl ?_
                  refine s_iload (pc := 252) dX11_runOnce_252 rfl ?_
                  refine s_bind (fun q88 hq89 => ?_)
                  have hC90 := t_X11_tellHouse (l := xl X) (G := xG X) hq89
                  refine s_callV (pc := 254) (As := [.int q68.2]) (st := []) (nlt rfl) (q := (RX11, TX11, 16)) rfl rfl o86 cl_X11_tellHouse wi_X11_tellHouse wl_X11_tellHouse km_X11_377 rfl rfl (nle rfl) (nle rfl) (nle rfl) dX11_runOnce_254 hC90 ?_
                  have h91 := hC90.1 X
                  have o92 := h91.ok o86
                  have o93 := h91.ok o87
                  show S0 X _ q88 257 [some (.ref (gh (xG X) + a0)), none, none, some (.ref (gh (xG X) + r4)), none, some (.int q33), some (.long q42.2), none, some (.long s50.2), none, some (.long s57.2), none, some (.int q68.2)] [] _
                  refine s_iconst (pc := 257) 0 dX11_runOnce_257 kc_0 ?_
                  exact s_iret rfl dX11_runOnce_258
                · refine s_iload (pc := 220) dX11_runOnce_220 rfl ?_
                  refine s_bipush (pc := 222) (-5) dX11_runOnce_222 kb_m5 ?_
                  refine s_icne (pc := 224) 232 dX11_runOnce_224 rfl ?_ ?_
                  · refine s_bipush (pc := 232) (-3) dX11_runOnce_232 kb_m3 ?_
                    exact s_iret rfl dX11_runOnce_234
                  · refine s_bipush (pc := 227) (-5) dX11_runOnce_227 kb_m5 ?_
                    refine s_goto (pc := 229) 234 dX11_runOnce_229 rfl ?_
                    exact s_iret rfl dX11_runOnce_234
              · refine s_aload_n (pc := 190) 0 dX11_runOnce_190 rfl rfl ?_
                refine s_lload (pc := 191) dX11_runOnce_191 rfl ?_
                refine s_l2i (pc := 193) dX11_runOnce_193 ?_
                refine s_bind (fun q94 hq95 => ?_)
                have hC96 := t_X11_turnYear (l := xl X) (G := xG X) hq95
                refine s_callV (pc := 194) (As := [.int q42.2.toInt32]) (st := []) (nlt rfl) (q := (RX11, TX11, 16)) rfl rfl o66 cl_X11_turnYear wi_X11_turnYear wl_X11_turnYear km_X11_392 rfl rfl (nle rfl) (nle rfl) (nle rfl) dX11_runOnce_194 hC96 ?_
                have h97 := hC96.1 X
                have o98 := h97.ok o66
                have o99 := h97.ok o67
                show S0 X _ q94.1 197 [some (.ref (gh (xG X) + a0)), none, none, some (.ref (gh (xG X) + r4)), none, some (.int q33), some (.long q42.2), none, some (.long s50.2), none, some (.long s57.2), none, none] [.int q94.2] _
                exact s_iret rfl dX11_runOnce_197
            · refine s_bipush (pc := 174) (-3) dX11_runOnce_174 kb_m3 ?_
              exact s_iret rfl dX11_runOnce_176
      · refine s_icne (pc := 121) 128 dX11_runOnce_121 rfl ?_ ?_
        · refine s_aload_n (pc := 128) 0 dX11_runOnce_128 rfl rfl ?_
          refine s_geto (pc := 129) F_11 3 rfl o53 dX11_runOnce_129 kf_X11_30 ?_
          refine s_rvB (fun r100 => ?_)
          refine s_aload_n (pc := 132) 1 dX11_runOnce_132 rfl rfl ?_
          refine s_geto (pc := 133) F_9 1 rfl o55 dX11_runOnce_133 kf_X11_383 ?_
          refine s_rvB (fun r101 => ?_)
          refine s_aload_n (pc := 136) 1 dX11_runOnce_136 rfl rfl ?_
          refine s_iload_n (pc := 137) 2 dX11_runOnce_137 rfl rfl ?_
          refine s_iconst (pc := 138) 5 dX11_runOnce_138 kc_5 ?_
          refine s_bind (fun q102 hq103 => ?_)
          have hC104 := t_X9_told (l := xl X) (G := xG X) hq103
          refine s_callV (pc := 139) (As := [.int p2, .int 5]) (st := [.ref (gh (xG X) + r101), .ref (gh (xG X) + r100)]) (nlt rfl) (q := (RX9, TX9, 5)) rfl rfl o55 cl_X9_told wi_X9_told wl_X9_told km_X11_217 rfl rfl (nle rfl) (nle rfl) (nle rfl) dX11_runOnce_139 hC104 ?_
          show S0 X _ s50.1 142 [some (.ref (gh (xG X) + a0)), some (.ref (gh (xG X) + a1)), some (.int p2), some (.ref (gh (xG X) + r4)), none, some (.int q33), some (.long q42.2), none, some (.long s50.2), none, none, none, none] [.int q102, .ref (gh (xG X) + r101), .ref (gh (xG X) + r100)] _
          refine s_grd (fun o105 => ?_)
          refine s_bind (fun q106 hq107 => ?_)
          have hC108 := t_X3_run (l := xl X) (G := xG X) hq107
          refine s_callV (pc := 142) (As := [.ref (gh (xG X) + r101), .int q102]) (st := []) (nlt rfl) (q := (RX3, TX3, 2)) rfl rfl o105 cl_X3_run wi_X3_run wl_X3_run km_X11_386 rfl rfl (nle rfl) (nle rfl) (nle rfl) dX11_runOnce_142 hC108 ?_
          have h109 := hC108.1 X
          have o110 := h109.ok o53
          have o111 := h109.ok o54
          have o112 := h109.ok o55
          show S0 X _ q106.1 145 [some (.ref (gh (xG X) + a0)), some (.ref (gh (xG X) + a1)), some (.int p2), some (.ref (gh (xG X) + r4)), none, some (.int q33), some (.long q42.2), none, some (.long s50.2), none, none, none, none] [.long q106.2] _
          exact s_drop (hj59 (q106.1, q106.2) h109) (And.intro rfl (And.intro rfl (And.intro rfl (And.intro rfl (And.intro rfl trivial)))))
        · refine s_lconst (pc := 124) 0 dX11_runOnce_124 kl_0 ?_
          refine s_goto (pc := 125) 145 dX11_runOnce_125 rfl ?_
          exact s_drop (hj59 (s50.1, 0) Le.rf) (And.intro rfl (And.intro rfl (And.intro rfl (And.intro rfl (And.intro rfl trivial)))))
    · refine s_icne (pc := 92) 115 dX11_runOnce_92 rfl ?_ ?_
      · refine s_lconst (pc := 115) 0 dX11_runOnce_115 kl_0 ?_
        exact s_drop (hj52 (q42.1, 0) Le.rf) (And.intro rfl (And.intro rfl (And.intro rfl (And.intro rfl (And.intro rfl (And.intro rfl trivial))))))
      · refine s_aload_n (pc := 95) 0 dX11_runOnce_95 rfl rfl ?_
        refine s_geto (pc := 96) F_11 3 rfl o46 dX11_runOnce_96 kf_X11_30 ?_
        refine s_rvB (fun r113 => ?_)
        refine s_aload_n (pc := 99) 1 dX11_runOnce_99 rfl rfl ?_
        refine s_geto (pc := 100) F_9 1 rfl o48 dX11_runOnce_100 kf_X11_383 ?_
        refine s_rvB (fun r114 => ?_)
        refine s_aload_n (pc := 103) 1 dX11_runOnce_103 rfl rfl ?_
        refine s_iload_n (pc := 104) 2 dX11_runOnce_104 rfl rfl ?_
        refine s_iconst (pc := 105) 4 dX11_runOnce_105 kc_4 ?_
        refine s_bind (fun q115 hq116 => ?_)
        have hC117 := t_X9_told (l := xl X) (G := xG X) hq116
        refine s_callV (pc := 106) (As := [.int p2, .int 4]) (st := [.ref (gh (xG X) + r114), .ref (gh (xG X) + r113)]) (nlt rfl) (q := (RX9, TX9, 5)) rfl rfl o48 cl_X9_told wi_X9_told wl_X9_told km_X11_217 rfl rfl (nle rfl) (nle rfl) (nle rfl) dX11_runOnce_106 hC117 ?_
        show S0 X _ q42.1 109 [some (.ref (gh (xG X) + a0)), some (.ref (gh (xG X) + a1)), some (.int p2), some (.ref (gh (xG X) + r4)), none, some (.int q33), some (.long q42.2), none, none, none, none, none, none] [.int q115, .ref (gh (xG X) + r114), .ref (gh (xG X) + r113)] _
        refine s_grd (fun o118 => ?_)
        refine s_bind (fun q119 hq120 => ?_)
        have hC121 := t_X3_run (l := xl X) (G := xG X) hq120
        refine s_callV (pc := 109) (As := [.ref (gh (xG X) + r114), .int q115]) (st := []) (nlt rfl) (q := (RX3, TX3, 2)) rfl rfl o118 cl_X3_run wi_X3_run wl_X3_run km_X11_386 rfl rfl (nle rfl) (nle rfl) (nle rfl) dX11_runOnce_109 hC121 ?_
        have h122 := hC121.1 X
        have o123 := h122.ok o46
        have o124 := h122.ok o47
        have o125 := h122.ok o48
        show S0 X _ q119.1 112 [some (.ref (gh (xG X) + a0)), some (.ref (gh (xG X) + a1)), some (.int p2), some (.ref (gh (xG X) + r4)), none, some (.int q33), some (.long q42.2), none, none, none, none, none, none] [.long q119.2] _
        refine s_goto (pc := 112) 116 dX11_runOnce_112 rfl ?_
        exact s_drop (hj52 (q119.1, q119.2) h122) (And.intro rfl (And.intro rfl (And.intro rfl (And.intro rfl (And.intro rfl (And.intro rfl trivial))))))
  · refine s_iceq (pc := 39) 62 dX11_runOnce_39 rfl ?_ ?_
    · exact s_drop (hj29 M17 Le.rf) (And.intro rfl (And.intro rfl (And.intro rfl (And.intro rfl trivial))))
    · refine s_aload_n (pc := 42) 0 dX11_runOnce_42 rfl rfl ?_
      refine s_geto (pc := 43) F_11 3 rfl o20 dX11_runOnce_43 kf_X11_30 ?_
      refine s_rvB (fun r126 => ?_)
      refine s_aload_n (pc := 46) 1 dX11_runOnce_46 rfl rfl ?_
      refine s_geto (pc := 47) F_9 1 rfl o22 dX11_runOnce_47 kf_X11_383 ?_
      refine s_rvB (fun r127 => ?_)
      refine s_iload (pc := 50) dX11_runOnce_50 rfl ?_
      refine s_grd (fun o128 => ?_)
      refine s_bind (fun q129 hq130 => ?_)
      have hC131 := t_X3_run (l := xl X) (G := xG X) hq130
      refine s_callV (pc := 52) (As := [.ref (gh (xG X) + r127), .int q23]) (st := []) (nlt rfl) (q := (RX3, TX3, 2)) rfl rfl o128 cl_X3_run wi_X3_run wl_X3_run km_X11_386 rfl rfl (nle rfl) (nle rfl) (nle rfl) dX11_runOnce_52 hC131 ?_
      have h132 := hC131.1 X
      have o133 := h132.ok o20
      have o134 := h132.ok o21
      have o135 := h132.ok o22
      show S0 X _ q129.1 55 [some (.ref (gh (xG X) + a0)), some (.ref (gh (xG X) + a1)), some (.int p2), some (.ref (gh (xG X) + r4)), some (.int q23), none, none, none, none, none, none, none, none] [.long q129.2] _
      refine s_lconst (pc := 55) 1 dX11_runOnce_55 kl_1 ?_
      refine s_lcmp (pc := 56) dX11_runOnce_56 ?_
      refine s_ifeq (pc := 57) 62 dX11_runOnce_57 rfl ?_ ?_
      · exact s_drop (hj29 q129.1 h132) (And.intro rfl (And.intro rfl (And.intro rfl (And.intro rfl trivial))))
      · refine s_iconst (pc := 60) 0 dX11_runOnce_60 kc_0 ?_
        exact s_iret rfl dX11_runOnce_61
