set_option maxRecDepth 100000 in
set_option maxHeartbeats 8000000 in
noncomputable def f_X11_law (M : Mem) (a0 : Nat) : Option (Mem × Int32) :=
  grd (okO M 11 a0) (Option.bind (mR M a0 0) (fun r2 => grd (okO M 10 r2) (if (mI M r2 9) < 6 then (Option.bind (mR M a0 2) (fun r4 => grd (okO M 7 r4) (Option.bind (f_X7_read M r4 0) (fun q6 => Option.bind (mR q6.1 a0 2) (fun r11 => grd (okO q6.1 7 r11) (bv (wI q6.1 r11 4 0) (fun M13 => Option.bind (mR M13 a0 2) (fun r17 => grd (okO M13 7 r17) (bv (wI M13 a0 14 (mI M13 r17 5)) (fun M19 => if q6.2 = 0 then (Option.bind (f_X11_refuse M19 a0 (-6)) (fun q44 => some (q44.1, q44.2))) else (Option.bind (mR M19 a0 0) (fun r23 => Option.bind (mR M19 a0 2) (fun r24 => grd (okO M19 7 r24) (Option.bind (mR M19 r24 3) (fun r26 => grd (okO M19 9 r26) (Option.bind (f_X9_kept M19 r26) (fun q28 => grd (okO q28.1 10 r23) (Option.bind (f_X10_addLaw q28.1 r23 q28.2) (fun q34 => Option.bind (f_X11_accept q34.1 a0 q34.2) (fun q39 => some (q39.1, q39.2))))))))))))))))))))) else (Option.bind (mR M a0 2) (fun r49 => grd (okO M 7 r49) (bv (wI M r49 4 0) (fun M51 => Option.bind (f_X11_refuse M51 a0 (-5)) (fun q55 => some (q55.1, q55.2)))))))))
abbrev Y_X11_law : Sta := (RX11, "law", cX11_law, 2, (some .int), 208)
set_option maxRecDepth 100000 in
set_option maxHeartbeats 8000000 in
theorem t_X11_law {l : Launch} {G : Gh} {M : Mem} {a0 : Nat} {q : Mem × Int32} (h : f_X11_law M a0 = some q) : Ctr l G yX11_law Y_X11_law M [.ref (gh G + a0)] q.1 (some (.int q.2)) := by
  refine Ctr.of (Y := Y_X11_law) (L := [some (.ref (gh G + a0)), none]) (t := Option.bind (f_X11_law M a0) (fun q => some (q.1, some (.int q.2)))) (by decide) rfl rfl (nle rfl) (Lof_in 1 _ rfl) (fun X hG hl => ?_) (by rw [h]; rfl)
  subst hG
  subst hl
  unfold f_X11_law
  refine s_aload_n (pc := 0) 0 dX11_law_0 rfl rfl ?_
  refine s_grd (fun o1 => ?_)
  refine s_geto (pc := 1) F_11 0 rfl o1 dX11_law_1 kf_X11_10 ?_
  refine s_rvB (fun r2 => ?_)
  refine s_grd (fun o3 => ?_)
  refine s_getiN (pc := 4) F_10 9 rfl o3 dX11_law_4 (List.mem_of_getElem? (i := 10) rfl) ?_
  refine s_bipush (pc := 7) 6 dX11_law_7 kb_6 ?_
  refine s_iclt (pc := 9) 27 dX11_law_9 rfl ?_ ?_
  · refine s_aload_n (pc := 27) 0 dX11_law_27 rfl rfl ?_
    refine s_geto (pc := 28) F_11 2 rfl o1 dX11_law_28 kf_X11_23 ?_
    refine s_rvB (fun r4 => ?_)
    refine s_iconst (pc := 31) 0 dX11_law_31 kc_0 ?_
    refine s_grd (fun o5 => ?_)
    refine s_bind (fun q6 hq7 => ?_)
    have hC8 := t_X7_read (l := xl X) (G := xG X) hq7
    refine s_callV (pc := 32) (As := [.int 0]) (st := []) (nlt rfl) (q := (RX7, TX7, 10)) rfl rfl o5 cl_X7_read wi_X7_read wl_X7_read km_X11_192 rfl rfl (nle rfl) (nle rfl) (nle rfl) dX11_law_32 hC8 ?_
    have h9 := hC8.1 X
    have o10 := h9.ok o1
    show S0 X _ q6.1 35 [some (.ref (gh (xG X) + a0)), none] [.int q6.2] _
    refine s_istore_n (pc := 35) 1 dX11_law_35 rfl (nlt rfl) rfl (L' := [some (.ref (gh (xG X) + a0)), some (.int q6.2)]) rfl ?_
    refine s_aload_n (pc := 36) 0 dX11_law_36 rfl rfl ?_
    refine s_geto (pc := 37) F_11 2 rfl o10 dX11_law_37 kf_X11_23 ?_
    refine s_rvB (fun r11 => ?_)
    refine s_iconst (pc := 40) 0 dX11_law_40 kc_0 ?_
    refine s_grd (fun o12 => ?_)
    refine s_puti (pc := 41) F_7 4 rfl o12 rfl rfl rfl dX11_law_41 kf_X11_176 (fun M13 hM14 => ?_)
    have h15 := le_wI hM14
    have o16 := h15.ok o10
    refine s_aload_n (pc := 44) 0 dX11_law_44 rfl rfl ?_
    refine s_aload_n (pc := 45) 0 dX11_law_45 rfl rfl ?_
    refine s_geto (pc := 46) F_11 2 rfl o16 dX11_law_46 kf_X11_23 ?_
    refine s_rvB (fun r17 => ?_)
    refine s_grd (fun o18 => ?_)
    refine s_geti (pc := 49) F_7 5 rfl o18 dX11_law_49 kf_X11_196 ?_
    refine s_puti (pc := 52) F_11 14 rfl o16 rfl rfl rfl dX11_law_52 kf_X11_82 (fun M19 hM20 => ?_)
    have h21 := le_wI hM20
    have o22 := h21.ok o16
    refine s_iload_n (pc := 55) 1 dX11_law_55 rfl rfl ?_
    refine s_ifne (pc := 56) 66 dX11_law_56 rfl ?_ ?_
    · refine s_aload_n (pc := 66) 0 dX11_law_66 rfl rfl ?_
      refine s_aload_n (pc := 67) 0 dX11_law_67 rfl rfl ?_
      refine s_geto (pc := 68) F_11 0 rfl o22 dX11_law_68 kf_X11_10 ?_
      refine s_rvB (fun r23 => ?_)
      refine s_aload_n (pc := 71) 0 dX11_law_71 rfl rfl ?_
      refine s_geto (pc := 72) F_11 2 rfl o22 dX11_law_72 kf_X11_23 ?_
      refine s_rvB (fun r24 => ?_)
      refine s_grd (fun o25 => ?_)
      refine s_geto (pc := 75) F_7 3 rfl o25 dX11_law_75 kf_X11_199 ?_
      refine s_rvB (fun r26 => ?_)
      refine s_grd (fun o27 => ?_)
      refine s_bind (fun q28 hq29 => ?_)
      have hC30 := t_X9_kept (l := xl X) (G := xG X) hq29
      refine s_callV (pc := 78) (As := []) (st := [.ref (gh (xG X) + r23), .ref (gh (xG X) + a0)]) (nlt rfl) (q := (RX9, TX9, 5)) rfl rfl o27 cl_X9_kept wi_X9_kept wl_X9_kept km_X11_203 rfl rfl (nle rfl) (nle rfl) (nle rfl) dX11_law_78 hC30 ?_
      have h31 := hC30.1 X
      have o32 := h31.ok o22
      show S0 X _ q28.1 81 [some (.ref (gh (xG X) + a0)), some (.int q6.2)] [.ref (gh (xG X) + q28.2), .ref (gh (xG X) + r23), .ref (gh (xG X) + a0)] _
      refine s_grd (fun o33 => ?_)
      refine s_bind (fun q34 hq35 => ?_)
      have hC36 := t_X10_addLaw (l := xl X) (G := xG X) hq35
      refine s_callV (pc := 81) (As := [.ref (gh (xG X) + q28.2)]) (st := [.ref (gh (xG X) + a0)]) (nlt rfl) (q := (RX10, TX10, 15)) rfl rfl o33 cl_X10_addLaw wi_X10_addLaw wl_X10_addLaw km_X11_209 rfl rfl (nle rfl) (nle rfl) (nle rfl) dX11_law_81 hC36 ?_
      have h37 := hC36.1 X
      have o38 := h37.ok o32
      show S0 X _ q34.1 84 [some (.ref (gh (xG X) + a0)), some (.int q6.2)] [.int q34.2, .ref (gh (xG X) + a0)] _
      refine s_bind (fun q39 hq40 => ?_)
      have hC41 := t_X11_accept (l := xl X) (G := xG X) hq40
      refine s_callV (pc := 84) (As := [.int q34.2]) (st := []) (nlt rfl) (q := (RX11, TX11, 16)) rfl rfl o38 cl_X11_accept wi_X11_accept wl_X11_accept km_X11_108 rfl rfl (nle rfl) (nle rfl) (nle rfl) dX11_law_84 hC41 ?_
      have h42 := hC41.1 X
      have o43 := h42.ok o38
      show S0 X _ q39.1 87 [some (.ref (gh (xG X) + a0)), some (.int q6.2)] [.int q39.2] _
      exact s_iret rfl dX11_law_87
    · refine s_aload_n (pc := 59) 0 dX11_law_59 rfl rfl ?_
      refine s_bipush (pc := 60) (-6) dX11_law_60 kb_m6 ?_
      refine s_bind (fun q44 hq45 => ?_)
      have hC46 := t_X11_refuse (l := xl X) (G := xG X) hq45
      refine s_callV (pc := 62) (As := [.int (-6)]) (st := []) (nlt rfl) (q := (RX11, TX11, 16)) rfl rfl o22 cl_X11_refuse wi_X11_refuse wl_X11_refuse km_X11_97 rfl rfl (nle rfl) (nle rfl) (nle rfl) dX11_law_62 hC46 ?_
      have h47 := hC46.1 X
      have o48 := h47.ok o22
      show S0 X _ q44.1 65 [some (.ref (gh (xG X) + a0)), some (.int q6.2)] [.int q44.2] _
      exact s_iret rfl dX11_law_65
  · refine s_aload_n (pc := 12) 0 dX11_law_12 rfl rfl ?_
    refine s_geto (pc := 13) F_11 2 rfl o1 dX11_law_13 kf_X11_23 ?_
    refine s_rvB (fun r49 => ?_)
    refine s_iconst (pc := 16) 0 dX11_law_16 kc_0 ?_
    refine s_grd (fun o50 => ?_)
    refine s_puti (pc := 17) F_7 4 rfl o50 rfl rfl rfl dX11_law_17 kf_X11_176 (fun M51 hM52 => ?_)
    have h53 := le_wI hM52
    have o54 := h53.ok o1
    refine s_aload_n (pc := 20) 0 dX11_law_20 rfl rfl ?_
    refine s_bipush (pc := 21) (-5) dX11_law_21 kb_m5 ?_
    refine s_bind (fun q55 hq56 => ?_)
    have hC57 := t_X11_refuse (l := xl X) (G := xG X) hq56
    refine s_callV (pc := 23) (As := [.int (-5)]) (st := []) (nlt rfl) (q := (RX11, TX11, 16)) rfl rfl o54 cl_X11_refuse wi_X11_refuse wl_X11_refuse km_X11_97 rfl rfl (nle rfl) (nle rfl) (nle rfl) dX11_law_23 hC57 ?_
    have h58 := hC57.1 X
    have o59 := h58.ok o54
    show S0 X _ q55.1 26 [some (.ref (gh (xG X) + a0)), none] [.int q55.2] _
    exact s_iret rfl dX11_law_26
set_option maxRecDepth 100000 in
set_option maxHeartbeats 8000000 in
noncomputable def f_X11_orders (M : Mem) (a0 : Nat) : Option (Mem × Int32) :=
  grd (okO M 11 a0) (Option.bind (mR M a0 2) (fun r2 => grd (okO M 7 r2) (Option.bind (f_X7_read M r2 1) (fun q4 => Option.bind (mR q4.1 a0 2) (fun r9 => grd (okO q4.1 7 r9) (bv (wI q4.1 r9 4 0) (fun M11 => Option.bind (mR M11 a0 2) (fun r15 => grd (okO M11 7 r15) (bv (wI M11 a0 14 (mI M11 r15 5)) (fun M17 => bv (wI M17 a0 15 (-1)) (fun M21 => if q4.2 = 0 then (Option.bind (f_X11_refuse M21 a0 (-6)) (fun q120 => some (q120.1, q120.2))) else (Option.bind (mR M21 a0 0) (fun r25 => grd (okO M21 10 r25) (bv (mI M21 r25 8 : Int32) (fun x27 => Option.bind (mR M21 a0 0) (fun r28 => grd (okO M21 10 r28) (bv (mI M21 r28 11 : Int32) (fun x30 => Option.bind (f_X11_tellSteward M21 a0) (fun q31 => Option.bind (loopO (σ := Mem × Int32) (ρ := Mem ⊕ (Mem × Int32 × Int32)) (fun s36 => Option.bind (mR s36.1 a0 2) (fun r49 => grd (okO s36.1 7 r49) (Option.bind (mR s36.1 r49 3) (fun r51 => grd (okO s36.1 9 r51) (if (mI s36.1 r51 2) ≤ s36.2 then (some (.inr (.inl s36.1))) else (Option.bind (loopO (σ := Mem × Int32) (ρ := Mem ⊕ (Mem × Int32)) (fun s53 => Option.bind (mR s53.1 a0 2) (fun r66 => grd (okO s53.1 7 r66) (Option.bind (mR s53.1 r66 3) (fun r68 => grd (okO s53.1 9 r68) (Option.bind (f_X9_told s53.1 r68 s36.2 1) (fun q70 => if q70 ≤ s53.2 then (some (.inr (.inl s53.1))) else (Option.bind (mR s53.1 a0 2) (fun r73 => grd (okO s53.1 7 r73) (Option.bind (mR s53.1 r73 3) (fun r75 => Option.bind (f_X11_runOnce s53.1 a0 r75 s36.2) (fun q76 => if 0 ≤ q76.2 then (bv (s53.2 + 1 : Int32) (fun x81 => some (.inl (q76.1, x81)))) else (some (.inr (.inr (q76.1, q76.2))))))))))))))) (s36.1, 0)) (Sum.elim (fun (x62 : Mem) => bv (s36.2 + 1 : Int32) (fun x83 => some (.inl (x62, x83)))) (fun (x64 : Mem × Int32) => some (.inr (.inr (x64.1, s36.2, x64.2))))))))))) (q31, 0)) (Sum.elim (fun (x45 : Mem) => Option.bind (mR x45 a0 3) (fun r86 => grd (okO x45 3 r86) (Option.bind (mR x45 r86 0) (fun r88 => grd (okO x45 14 r88) (grd (vp_in 2 (mL x45 r88)) (Option.bind (f_X11_accept x45 a0 (mI x45 r88 (2 : Int32).toNatClampNeg)) (fun q91 => some (q91.1, q91.2)))))))) (fun (x47 : Mem × Int32 × Int32) => bv (wI x47.1 a0 15 x47.2.1) (fun M97 => Option.bind (mR M97 a0 0) (fun r101 => grd (okO M97 10 r101) (Option.bind (f_X10_keepHouses M97 r101 x27) (fun q103 => Option.bind (mR q103 a0 0) (fun r108 => grd (okO q103 10 r108) (Option.bind (f_X10_turnTo q103 r108 x30) (fun q110 => Option.bind (f_X11_refuse q110 a0 x47.2.2) (fun q115 => some (q115.1, q115.2))))))))))))))))))))))))))))))
abbrev Y_X11_orders : Sta := (RX11, "orders", cX11_orders, 7, (some .int), 208)
set_option maxRecDepth 100000 in
set_option maxHeartbeats 8000000 in
theorem t_X11_orders {l : Launch} {G : Gh} {M : Mem} {a0 : Nat} {q : Mem × Int32} (h : f_X11_orders M a0 = some q) : Ctr l G yX11_orders Y_X11_orders M [.ref (gh G + a0)] q.1 (some (.int q.2)) := by
  refine Ctr.of (Y := Y_X11_orders) (L := [some (.ref (gh G + a0)), none, none, none, none, none, none]) (t := Option.bind (f_X11_orders M a0) (fun q => some (q.1, some (.int q.2)))) (by decide) rfl rfl (nle rfl) (Lof_in 6 _ rfl) (fun X hG hl => ?_) (by rw [h]; rfl)
  subst hG
  subst hl
  unfold f_X11_orders
  refine s_aload_n (pc := 0) 0 dX11_orders_0 rfl rfl ?_
  refine s_grd (fun o1 => ?_)
  refine s_geto (pc := 1) F_11 2 rfl o1 dX11_orders_1 kf_X11_23 ?_
  refine s_rvB (fun r2 => ?_)
  refine s_iconst (pc := 4) 1 dX11_orders_4 kc_1 ?_
  refine s_grd (fun o3 => ?_)
  refine s_bind (fun q4 hq5 => ?_)
  have hC6 := t_X7_read (l := xl X) (G := xG X) hq5
  refine s_callV (pc := 5) (As := [.int 1]) (st := []) (nlt rfl) (q := (RX7, TX7, 10)) rfl rfl o3 cl_X7_read wi_X7_read wl_X7_read km_X11_192 rfl rfl (nle rfl) (nle rfl) (nle rfl) dX11_orders_5 hC6 ?_
  have h7 := hC6.1 X
  have o8 := h7.ok o1
  show S0 X _ q4.1 8 [some (.ref (gh (xG X) + a0)), none, none, none, none, none, none] [.int q4.2] _
  refine s_istore_n (pc := 8) 1 dX11_orders_8 rfl (nlt rfl) rfl (L' := [some (.ref (gh (xG X) + a0)), some (.int q4.2), none, none, none, none, none]) rfl ?_
  refine s_aload_n (pc := 9) 0 dX11_orders_9 rfl rfl ?_
  refine s_geto (pc := 10) F_11 2 rfl o8 dX11_orders_10 kf_X11_23 ?_
  refine s_rvB (fun r9 => ?_)
  refine s_iconst (pc := 13) 0 dX11_orders_13 kc_0 ?_
  refine s_grd (fun o10 => ?_)
  refine s_puti (pc := 14) F_7 4 rfl o10 rfl rfl rfl dX11_orders_14 kf_X11_176 (fun M11 hM12 => ?_)
  have h13 := le_wI hM12
  have o14 := h13.ok o8
  refine s_aload_n (pc := 17) 0 dX11_orders_17 rfl rfl ?_
  refine s_aload_n (pc := 18) 0 dX11_orders_18 rfl rfl ?_
  refine s_geto (pc := 19) F_11 2 rfl o14 dX11_orders_19 kf_X11_23 ?_
  refine s_rvB (fun r15 => ?_)
  refine s_grd (fun o16 => ?_)
  refine s_geti (pc := 22) F_7 5 rfl o16 dX11_orders_22 kf_X11_196 ?_
  refine s_puti (pc := 25) F_11 14 rfl o14 rfl rfl rfl dX11_orders_25 kf_X11_82 (fun M17 hM18 => ?_)
  have h19 := le_wI hM18
  have o20 := h19.ok o14
  refine s_aload_n (pc := 28) 0 dX11_orders_28 rfl rfl ?_
  refine s_iconst (pc := 29) (-1) dX11_orders_29 kc_m1 ?_
  refine s_puti (pc := 30) F_11 15 rfl o20 rfl rfl rfl dX11_orders_30 kf_X11_86 (fun M21 hM22 => ?_)
  have h23 := le_wI hM22
  have o24 := h23.ok o20
  refine s_iload_n (pc := 33) 1 dX11_orders_33 rfl rfl ?_
  refine s_ifne (pc := 34) 44 dX11_orders_34 rfl ?_ ?_
  · refine s_aload_n (pc := 44) 0 dX11_orders_44 rfl rfl ?_
    refine s_geto (pc := 45) F_11 0 rfl o24 dX11_orders_45 kf_X11_10 ?_
    refine s_rvB (fun r25 => ?_)
    refine s_grd (fun o26 => ?_)
    refine s_getiN (pc := 48) F_10 8 rfl o26 dX11_orders_48 (List.mem_of_getElem? (i := 9) rfl) ?_
    refine s_istore_n (pc := 51) 2 dX11_orders_51 rfl (nlt rfl) rfl (L' := [some (.ref (gh (xG X) + a0)), some (.int q4.2), some (.int (mI M21 r25 8)), none, none, none, none]) rfl ?_
    refine s_bv (fun x27 : Int32 => [some (.ref (gh (xG X) + a0)), some (.int q4.2), some (.int x27), none, none, none, none]) (fun x27 => ?_) rfl
    refine s_aload_n (pc := 52) 0 dX11_orders_52 rfl rfl ?_
    refine s_geto (pc := 53) F_11 0 rfl o24 dX11_orders_53 kf_X11_10 ?_
    refine s_rvB (fun r28 => ?_)
    refine s_grd (fun o29 => ?_)
    refine s_getiN (pc := 56) F_10 11 rfl o29 dX11_orders_56 (List.mem_of_getElem? (i := 14) rfl) ?_
    refine s_istore_n (pc := 59) 3 dX11_orders_59 rfl (nlt rfl) rfl (L' := [some (.ref (gh (xG X) + a0)), some (.int q4.2), some (.int x27), some (.int (mI M21 r28 11)), none, none, none]) rfl ?_
    refine s_bv (fun x30 : Int32 => [some (.ref (gh (xG X) + a0)), some (.int q4.2), some (.int x27), some (.int x30), none, none, none]) (fun x30 => ?_) rfl
    refine s_aload_n (pc := 60) 0 dX11_orders_60 rfl rfl ?_
    refine s_bind (fun q31 hq32 => ?_)
    have hC33 := t_X11_tellSteward (l := xl X) (G := xG X) hq32
    refine s_callV (pc := 61) (As := []) (st := []) (nlt rfl) (q := (RX11, TX11, 16)) rfl rfl o24 cl_X11_tellSteward wi_X11_tellSteward wl_X11_tellSteward km_X11_213 rfl rfl (nle rfl) (nle rfl) (nle rfl) dX11_orders_61 hC33 ?_
    have h34 := hC33.1 X
    have o35 := h34.ok o24
    show S0 X _ q31 64 [some (.ref (gh (xG X) + a0)), some (.int q4.2), some (.int x27), some (.int x30), none, none, none] [] _
    refine s_iconst (pc := 64) 0 dX11_orders_64 kc_0 ?_
    refine s_istore (pc := 65) dX11_orders_65 (nlt rfl) rfl (L' := [some (.ref (gh (xG X) + a0)), some (.int q4.2), some (.int x27), some (.int x30), some (.int 0), none, none]) rfl ?_
    refine s_drop (L' := [some (.ref (gh (xG X) + a0)), none, some (.int x27), some (.int x30), some (.int 0), none, none]) ?_ (And.intro rfl (And.intro rfl (And.intro rfl (And.intro rfl trivial))))
    refine s_loop2 q31 (fun s36 : Mem × Int32 => s36.1) (fun s36 : Mem × Int32 => [some (.ref (gh (xG X) + a0)), none, some (.int x27), some (.int x30), some (.int s36.2), none, none]) (fun x45 : Mem => x45) 164 (fun x45 : Mem => [some (.ref (gh (xG X) + a0)), none, none, none, none, none, none]) (fun x47 : Mem × Int32 × Int32 => x47.1) 123 (fun x47 : Mem × Int32 × Int32 => [some (.ref (gh (xG X) + a0)), none, some (.int x27), some (.int x30), some (.int x47.2.1), none, some (.int x47.2.2)]) (fun x45 hx46 => ?_) (fun x47 hx48 => ?_) (fun T38 R40 R42 hT39 hR41 hR43 s36 hs37 => ?_) (q31, 0) Le.rf
    · show S0 X _ x45 164 [some (.ref (gh (xG X) + a0)), none, none, none, none, none, none] [] _
      have o85 := hx46.ok o35
      refine s_aload_n (pc := 164) 0 dX11_orders_164 rfl rfl ?_
      refine s_aload_n (pc := 165) 0 dX11_orders_165 rfl rfl ?_
      refine s_geto (pc := 166) F_11 3 rfl o85 dX11_orders_166 kf_X11_30 ?_
      refine s_rvB (fun r86 => ?_)
      refine s_grd (fun o87 => ?_)
      refine s_geto (pc := 169) F_3 0 rfl o87 dX11_orders_169 kf_X11_224 ?_
      refine s_rvB (fun r88 => ?_)
      refine s_iconst (pc := 172) 2 dX11_orders_172 kc_2 ?_
      refine s_grd (fun o89 => ?_)
      refine s_grd (fun i90 => ?_)
      refine s_iald (pc := 173) o89 i90 dX11_orders_173 ?_
      refine s_bind (fun q91 hq92 => ?_)
      have hC93 := t_X11_accept (l := xl X) (G := xG X) hq92
      refine s_callV (pc := 174) (As := [.int (mI x45 r88 (2 : Int32).toNatClampNeg)]) (st := []) (nlt rfl) (q := (RX11, TX11, 16)) rfl rfl o85 cl_X11_accept wi_X11_accept wl_X11_accept km_X11_108 rfl rfl (nle rfl) (nle rfl) (nle rfl) dX11_orders_174 hC93 ?_
      have h94 := hC93.1 X
      have o95 := h94.ok o85
      show S0 X _ q91.1 177 [some (.ref (gh (xG X) + a0)), none, none, none, none, none, none] [.int q91.2] _
      exact s_iret rfl dX11_orders_177
    · show S0 X _ x47.1 123 [some (.ref (gh (xG X) + a0)), none, some (.int x27), some (.int x30), some (.int x47.2.1), none, some (.int x47.2.2)] [] _
      have o96 := hx48.ok o35
      refine s_aload_n (pc := 123) 0 dX11_orders_123 rfl rfl ?_
      refine s_iload (pc := 124) dX11_orders_124 rfl ?_
      refine s_puti (pc := 126) F_11 15 rfl o96 rfl rfl rfl dX11_orders_126 kf_X11_86 (fun M97 hM98 => ?_)
      have h99 := le_wI hM98
      have o100 := h99.ok o96
      refine s_aload_n (pc := 129) 0 dX11_orders_129 rfl rfl ?_
      refine s_geto (pc := 130) F_11 0 rfl o100 dX11_orders_130 kf_X11_10 ?_
      refine s_rvB (fun r101 => ?_)
      refine s_iload_n (pc := 133) 2 dX11_orders_133 rfl rfl ?_
      refine s_grd (fun o102 => ?_)
      refine s_bind (fun q103 hq104 => ?_)
      have hC105 := t_X10_keepHouses (l := xl X) (G := xG X) hq104
      refine s_callV (pc := 134) (As := [.int x27]) (st := []) (nlt rfl) (q := (RX10, TX10, 15)) rfl rfl o102 cl_X10_keepHouses wi_X10_keepHouses wl_X10_keepHouses km_X11_139 rfl rfl (nle rfl) (nle rfl) (nle rfl) dX11_orders_134 hC105 ?_
      have h106 := hC105.1 X
      have o107 := h106.ok o100
      show S0 X _ q103 137 [some (.ref (gh (xG X) + a0)), none, some (.int x27), some (.int x30), some (.int x47.2.1), none, some (.int x47.2.2)] [] _
      refine s_aload_n (pc := 137) 0 dX11_orders_137 rfl rfl ?_
      refine s_geto (pc := 138) F_11 0 rfl o107 dX11_orders_138 kf_X11_10 ?_
      refine s_rvB (fun r108 => ?_)
      refine s_iload_n (pc := 141) 3 dX11_orders_141 rfl rfl ?_
      refine s_grd (fun o109 => ?_)
      refine s_bind (fun q110 hq111 => ?_)
      have hC112 := t_X10_turnTo (l := xl X) (G := xG X) hq111
      refine s_callV (pc := 142) (As := [.int x30]) (st := []) (nlt rfl) (q := (RX10, TX10, 15)) rfl rfl o109 cl_X10_turnTo wi_X10_turnTo wl_X10_turnTo km_X11_164 rfl rfl (nle rfl) (nle rfl) (nle rfl) dX11_orders_142 hC112 ?_
      have h113 := hC112.1 X
      have o114 := h113.ok o107
      show S0 X _ q110 145 [some (.ref (gh (xG X) + a0)), none, some (.int x27), some (.int x30), some (.int x47.2.1), none, some (.int x47.2.2)] [] _
      refine s_aload_n (pc := 145) 0 dX11_orders_145 rfl rfl ?_
      refine s_iload (pc := 146) dX11_orders_146 rfl ?_
      refine s_bind (fun q115 hq116 => ?_)
      have hC117 := t_X11_refuse (l := xl X) (G := xG X) hq116
      refine s_callV (pc := 148) (As := [.int x47.2.2]) (st := []) (nlt rfl) (q := (RX11, TX11, 16)) rfl rfl o114 cl_X11_refuse wi_X11_refuse wl_X11_refuse km_X11_97 rfl rfl (nle rfl) (nle rfl) (nle rfl) dX11_orders_148 hC117 ?_
      have h118 := hC117.1 X
      have o119 := h118.ok o114
      show S0 X _ q115.1 151 [some (.ref (gh (xG X) + a0)), none, some (.int x27), some (.int x30), some (.int x47.2.1), none, some (.int x47.2.2)] [.int q115.2] _
      exact s_iret rfl dX11_orders_151
    · show S0 X _ s36.1 67 [some (.ref (gh (xG X) + a0)), none, some (.int x27), some (.int x30), some (.int s36.2), none, none] [] _
      have o44 := hs37.ok o35
      refine s_iload (pc := 67) dX11_orders_67 rfl ?_
      refine s_aload_n (pc := 69) 0 dX11_orders_69 rfl rfl ?_
      refine s_geto (pc := 70) F_11 2 rfl o44 dX11_orders_70 kf_X11_23 ?_
      refine s_rvB (fun r49 => ?_)
      refine s_grd (fun o50 => ?_)
      refine s_geto (pc := 73) F_7 3 rfl o50 dX11_orders_73 kf_X11_199 ?_
      refine s_rvB (fun r51 => ?_)
      refine s_grd (fun o52 => ?_)
      refine s_geti (pc := 76) F_9 2 rfl o52 dX11_orders_76 kf_X11_216 ?_
      refine s_icge (pc := 79) 164 dX11_orders_79 rfl ?_ ?_
      · exact s_drop (hR41 s36.1 hs37) (And.intro rfl trivial)
      · refine s_iconst (pc := 82) 0 dX11_orders_82 kc_0 ?_
        refine s_istore (pc := 83) dX11_orders_83 (nlt rfl) rfl (L' := [some (.ref (gh (xG X) + a0)), none, some (.int x27), some (.int x30), some (.int s36.2), some (.int 0), none]) rfl ?_
        refine s_drop (L' := [some (.ref (gh (xG X) + a0)), none, some (.int x27), some (.int x30), some (.int s36.2), some (.int 0), none]) ?_ (And.intro rfl (And.intro rfl (And.intro rfl (And.intro rfl (And.intro rfl trivial)))))
        refine s_loop2 s36.1 (fun s53 : Mem × Int32 => s53.1) (fun s53 : Mem × Int32 => [some (.ref (gh (xG X) + a0)), none, some (.int x27), some (.int x30), some (.int s36.2), some (.int s53.2), none]) (fun x62 : Mem => x62) 158 (fun x62 : Mem => [some (.ref (gh (xG X) + a0)), none, some (.int x27), some (.int x30), some (.int s36.2), none, none]) (fun x64 : Mem × Int32 => x64.1) 123 (fun x64 : Mem × Int32 => [some (.ref (gh (xG X) + a0)), none, some (.int x27), some (.int x30), some (.int s36.2), none, some (.int x64.2)]) (fun x62 hx63 => ?_) (fun x64 hx65 => ?_) (fun T55 R57 R59 hT56 hR58 hR60 s53 hs54 => ?_) (s36.1, 0) Le.rf
        · show S0 X _ x62 158 [some (.ref (gh (xG X) + a0)), none, some (.int x27), some (.int x30), some (.int s36.2), none, none] [] _
          have o82 := hx63.ok o44
          refine s_iinc (pc := 158) dX11_orders_158 rfl (v := s36.2 + 1) (congrArg (fun z : Int32 => s36.2 + z) kc_1) (nlt rfl) rfl (L' := [some (.ref (gh (xG X) + a0)), none, some (.int x27), some (.int x30), some (.int (s36.2 + 1)), none, none]) rfl ?_
          refine s_bv (fun x83 : Int32 => [some (.ref (gh (xG X) + a0)), none, some (.int x27), some (.int x30), some (.int x83), none, none]) (fun x83 => ?_) rfl
          refine s_goto (pc := 161) 67 dX11_orders_161 rfl ?_
          exact s_drop (hT39 (x62, x83) (hs37.tr hx63)) (And.intro rfl (And.intro rfl (And.intro rfl (And.intro rfl trivial))))
        · show S0 X _ x64.1 123 [some (.ref (gh (xG X) + a0)), none, some (.int x27), some (.int x30), some (.int s36.2), none, some (.int x64.2)] [] _
          have o84 := hx65.ok o44
          exact s_drop (hR43 (x64.1, s36.2, x64.2) (hs37.tr hx65)) (And.intro rfl (And.intro rfl (And.intro rfl (And.intro rfl (And.intro rfl trivial)))))
        · show S0 X _ s53.1 85 [some (.ref (gh (xG X) + a0)), none, some (.int x27), some (.int x30), some (.int s36.2), some (.int s53.2), none] [] _
          have o61 := hs54.ok o44
          refine s_iload (pc := 85) dX11_orders_85 rfl ?_
          refine s_aload_n (pc := 87) 0 dX11_orders_87 rfl rfl ?_
          refine s_geto (pc := 88) F_11 2 rfl o61 dX11_orders_88 kf_X11_23 ?_
          refine s_rvB (fun r66 => ?_)
          refine s_grd (fun o67 => ?_)
          refine s_geto (pc := 91) F_7 3 rfl o67 dX11_orders_91 kf_X11_199 ?_
          refine s_rvB (fun r68 => ?_)
          refine s_iload (pc := 94) dX11_orders_94 rfl ?_
          refine s_iconst (pc := 96) 1 dX11_orders_96 kc_1 ?_
          refine s_grd (fun o69 => ?_)
          refine s_bind (fun q70 hq71 => ?_)
          have hC72 := t_X9_told (l := xl X) (G := xG X) hq71
          refine s_callV (pc := 97) (As := [.int s36.2, .int 1]) (st := [.int s53.2]) (nlt rfl) (q := (RX9, TX9, 5)) rfl rfl o69 cl_X9_told wi_X9_told wl_X9_told km_X11_217 rfl rfl (nle rfl) (nle rfl) (nle rfl) dX11_orders_97 hC72 ?_
          show S0 X _ s53.1 100 [some (.ref (gh (xG X) + a0)), none, some (.int x27), some (.int x30), some (.int s36.2), some (.int s53.2), none] [.int q70, .int s53.2] _
          refine s_icge (pc := 100) 158 dX11_orders_100 rfl ?_ ?_
          · exact s_drop (hR58 s53.1 hs54) (And.intro rfl (And.intro rfl (And.intro rfl (And.intro rfl trivial))))
          · refine s_aload_n (pc := 103) 0 dX11_orders_103 rfl rfl ?_
            refine s_aload_n (pc := 104) 0 dX11_orders_104 rfl rfl ?_
            refine s_geto (pc := 105) F_11 2 rfl o61 dX11_orders_105 kf_X11_23 ?_
            refine s_rvB (fun r73 => ?_)
            refine s_grd (fun o74 => ?_)
            refine s_geto (pc := 108) F_7 3 rfl o74 dX11_orders_108 kf_X11_199 ?_
            refine s_rvB (fun r75 => ?_)
            refine s_iload (pc := 111) dX11_orders_111 rfl ?_
            refine s_bind (fun q76 hq77 => ?_)
            have hC78 := t_X11_runOnce (l := xl X) (G := xG X) hq77
            refine s_callV (pc := 113) (As := [.ref (gh (xG X) + r75), .int s36.2]) (st := []) (nlt rfl) (q := (RX11, TX11, 16)) rfl rfl o61 cl_X11_runOnce wi_X11_runOnce wl_X11_runOnce km_X11_220 rfl rfl (nle rfl) (nle rfl) (nle rfl) dX11_orders_113 hC78 ?_
            have h79 := hC78.1 X
            have o80 := h79.ok o61
            show S0 X _ q76.1 116 [some (.ref (gh (xG X) + a0)), none, some (.int x27), some (.int x30), some (.int s36.2), some (.int s53.2), none] [.int q76.2] _
            refine s_istore (pc := 116) dX11_orders_116 (nlt rfl) rfl (L' := [some (.ref (gh (xG X) + a0)), none, some (.int x27), some (.int x30), some (.int s36.2), some (.int s53.2), some (.int q76.2)]) rfl ?_
            refine s_iload (pc := 118) dX11_orders_118 rfl ?_
            refine s_ifge (pc := 120) 152 dX11_orders_120 rfl ?_ ?_
            · refine s_iinc (pc := 152) dX11_orders_152 rfl (v := s53.2 + 1) (congrArg (fun z : Int32 => s53.2 + z) kc_1) (nlt rfl) rfl (L' := [some (.ref (gh (xG X) + a0)), none, some (.int x27), some (.int x30), some (.int s36.2), some (.int (s53.2 + 1)), some (.int q76.2)]) rfl ?_
              refine s_bv (fun x81 : Int32 => [some (.ref (gh (xG X) + a0)), none, some (.int x27), some (.int x30), some (.int s36.2), some (.int x81), some (.int q76.2)]) (fun x81 => ?_) rfl
              refine s_goto (pc := 155) 85 dX11_orders_155 rfl ?_
              exact s_drop (hT56 (q76.1, x81) (hs54.tr h79)) (And.intro rfl (And.intro rfl (And.intro rfl (And.intro rfl (And.intro rfl trivial)))))
            · exact s_drop (hR60 (q76.1, q76.2) (hs54.tr h79)) (And.intro rfl (And.intro rfl (And.intro rfl (And.intro rfl (And.intro rfl trivial)))))
  · refine s_aload_n (pc := 37) 0 dX11_orders_37 rfl rfl ?_
    refine s_bipush (pc := 38) (-6) dX11_orders_38 kb_m6 ?_
    refine s_bind (fun q120 hq121 => ?_)
    have hC122 := t_X11_refuse (l := xl X) (G := xG X) hq121
    refine s_callV (pc := 40) (As := [.int (-6)]) (st := []) (nlt rfl) (q := (RX11, TX11, 16)) rfl rfl o24 cl_X11_refuse wi_X11_refuse wl_X11_refuse km_X11_97 rfl rfl (nle rfl) (nle rfl) (nle rfl) dX11_orders_40 hC122 ?_
    have h123 := hC122.1 X
    have o124 := h123.ok o24
    show S0 X _ q120.1 43 [some (.ref (gh (xG X) + a0)), some (.int q4.2), none, none, none, none, none] [.int q120.2] _
    exact s_iret rfl dX11_orders_43
set_option maxRecDepth 100000 in
set_option maxHeartbeats 8000000 in
noncomputable def f_X12_born (M : Mem) (a0 : Nat) (p1 : Int32) (p2 : Int32) (p3 : Int32) (p4 : Int32) : Option (Mem × Int32) :=
  grd (okO M 12 a0) (Option.bind (f_X12_bears M a0 p1 p2 p3 p4) (fun q2 => if 0 ≤ q2.2 then (Option.bind (f_X12_good q2.1 a0 q2.2) (fun q7 => some (q7.1, q7.2))) else (Option.bind (f_X12_refuses q2.1 a0 q2.2) (fun q12 => some (q12.1, q12.2)))))
abbrev Y_X12_born : Sta := (RX12, "born", cX12_born, 6, (some .int), 208)
set_option maxRecDepth 100000 in
set_option maxHeartbeats 8000000 in
theorem t_X12_born {l : Launch} {G : Gh} {M : Mem} {a0 : Nat} {p1 : Int32} {p2 : Int32} {p3 : Int32} {p4 : Int32} {q : Mem × Int32} (h : f_X12_born M a0 p1 p2 p3 p4 = some q) : Ctr l G yX12_born Y_X12_born M [.ref (gh G + a0), .int p1, .int p2, .int p3, .int p4] q.1 (some (.int q.2)) := by
  refine Ctr.of (Y := Y_X12_born) (L := [some (.ref (gh G + a0)), some (.int p1), some (.int p2), some (.int p3), some (.int p4), none]) (t := Option.bind (f_X12_born M a0 p1 p2 p3 p4) (fun q => some (q.1, some (.int q.2)))) (by decide) rfl rfl (nle rfl) (Lof_in 1 _ rfl) (fun X hG hl => ?_) (by rw [h]; rfl)
  subst hG
  subst hl
  unfold f_X12_born
  refine s_aload_n (pc := 0) 0 dX12_born_0 rfl rfl ?_
  refine s_iload_n (pc := 1) 1 dX12_born_1 rfl rfl ?_
  refine s_iload_n (pc := 2) 2 dX12_born_2 rfl rfl ?_
  refine s_iload_n (pc := 3) 3 dX12_born_3 rfl rfl ?_
  refine s_iload (pc := 4) dX12_born_4 rfl ?_
  refine s_grd (fun o1 => ?_)
  refine s_bind (fun q2 hq3 => ?_)
  have hC4 := t_X12_bears (l := xl X) (G := xG X) hq3
  refine s_callV (pc := 6) (As := [.int p1, .int p2, .int p3, .int p4]) (st := []) (nlt rfl) (q := (RX12, TX12, 59)) rfl rfl o1 cl_X12_bears wi_X12_bears wl_X12_bears km_X12_208 rfl rfl (nle rfl) (nle rfl) (nle rfl) dX12_born_6 hC4 ?_
  have h5 := hC4.1 X
  have o6 := h5.ok o1
  show S0 X _ q2.1 9 [some (.ref (gh (xG X) + a0)), some (.int p1), some (.int p2), some (.int p3), some (.int p4), none] [.int q2.2] _
  refine s_istore (pc := 9) dX12_born_9 (nlt rfl) rfl (L' := [some (.ref (gh (xG X) + a0)), some (.int p1), some (.int p2), some (.int p3), some (.int p4), some (.int q2.2)]) rfl ?_
  refine s_iload (pc := 11) dX12_born_11 rfl ?_
  refine s_ifge (pc := 13) 25 dX12_born_13 rfl ?_ ?_
  · refine s_aload_n (pc := 25) 0 dX12_born_25 rfl rfl ?_
    refine s_iload (pc := 26) dX12_born_26 rfl ?_
    refine s_bind (fun q7 hq8 => ?_)
    have hC9 := t_X12_good (l := xl X) (G := xG X) hq8
    refine s_callV (pc := 28) (As := [.int q2.2]) (st := []) (nlt rfl) (q := (RX12, TX12, 59)) rfl rfl o6 cl_X12_good wi_X12_good wl_X12_good km_X12_131 rfl rfl (nle rfl) (nle rfl) (nle rfl) dX12_born_28 hC9 ?_
    have h10 := hC9.1 X
    have o11 := h10.ok o6
    show S0 X _ q7.1 31 [some (.ref (gh (xG X) + a0)), some (.int p1), some (.int p2), some (.int p3), some (.int p4), some (.int q2.2)] [.int q7.2] _
    exact s_iret rfl dX12_born_31
  · refine s_aload_n (pc := 16) 0 dX12_born_16 rfl rfl ?_
    refine s_iload (pc := 17) dX12_born_17 rfl ?_
    refine s_bind (fun q12 hq13 => ?_)
    have hC14 := t_X12_refuses (l := xl X) (G := xG X) hq13
    refine s_callV (pc := 19) (As := [.int q2.2]) (st := []) (nlt rfl) (q := (RX12, TX12, 59)) rfl rfl o6 cl_X12_refuses wi_X12_refuses wl_X12_refuses km_X12_127 rfl rfl (nle rfl) (nle rfl) (nle rfl) dX12_born_19 hC14 ?_
    have h15 := hC14.1 X
    have o16 := h15.ok o6
    show S0 X _ q12.1 22 [some (.ref (gh (xG X) + a0)), some (.int p1), some (.int p2), some (.int p3), some (.int p4), some (.int q2.2)] [.int q12.2] _
    refine s_goto (pc := 22) 31 dX12_born_22 rfl ?_
    exact s_iret rfl dX12_born_31
set_option maxRecDepth 100000 in
set_option maxHeartbeats 8000000 in
noncomputable def f_X12_changes (M : Mem) (a0 : Nat) (p1 : Int32) (p2 : Int32) : Option (Mem × Int32) :=
  Option.bind (f_X12_isDish p1) (fun q1 => if q1 = 0 then (some (M, (-1))) else (grd (okO M 12 a0) (Option.bind (mR M a0 3) (fun r5 => grd (okO M 14 r5) (grd (vp_in 54 (mL M r5)) (Option.bind (f_X12_lists M a0 p1 (mI M r5 (54 : Int32).toNatClampNeg) 0) (fun q8 => if p2 = (-1) then (some (q8, mI q8 a0 11)) else (Option.bind (f_X12_lies p2 0 ((mI q8 a0 11) - 1)) (fun q13 => if q13 = 0 then (some (q8, (-1))) else (Option.bind (mR q8 a0 9) (fun r16 => grd (okO q8 14 r16) (grd (vp_in p2 (mL q8 r16)) (some (q8, mI q8 r16 p2.toNatClampNeg))))))))))))))
abbrev Y_X12_changes : Sta := (RX12, "changes", cX12_changes, 3, (some .int), 208)
set_option maxRecDepth 100000 in
set_option maxHeartbeats 8000000 in
theorem t_X12_changes {l : Launch} {G : Gh} {M : Mem} {a0 : Nat} {p1 : Int32} {p2 : Int32} {q : Mem × Int32} (h : f_X12_changes M a0 p1 p2 = some q) : Ctr l G yX12_changes Y_X12_changes M [.ref (gh G + a0), .int p1, .int p2] q.1 (some (.int q.2)) := by
  refine Ctr.of (Y := Y_X12_changes) (L := [some (.ref (gh G + a0)), some (.int p1), some (.int p2)]) (t := Option.bind (f_X12_changes M a0 p1 p2) (fun q => some (q.1, some (.int q.2)))) (by decide) rfl rfl (nle rfl) (Lof_in 0 _ rfl) (fun X hG hl => ?_) (by rw [h]; rfl)
  subst hG
  subst hl
  unfold f_X12_changes
  refine s_iload_n (pc := 0) 1 dX12_changes_0 rfl rfl ?_
  refine s_bind (fun q1 hq2 => ?_)
  have hC3 := t_X12_isDish (l := xl X) (G := xG X) (M := M) hq2
  refine s_callS (pc := 1) (As := [.int p1]) (st := []) cl_X12_isDish wt_X12_isDish km_X12_184 rfl rfl (nle rfl) (nle rfl) (nle rfl) dX12_changes_1 hC3 ?_
  show S0 X _ M 4 [some (.ref (gh (xG X) + a0)), some (.int p1), some (.int p2)] [.int q1] _
  refine s_ifne (pc := 4) 9 dX12_changes_4 rfl ?_ ?_
  · refine s_aload_n (pc := 9) 0 dX12_changes_9 rfl rfl ?_
    refine s_iload_n (pc := 10) 1 dX12_changes_10 rfl rfl ?_
    refine s_aload_n (pc := 11) 0 dX12_changes_11 rfl rfl ?_
    refine s_grd (fun o4 => ?_)
    refine s_geto (pc := 12) F_12 3 rfl o4 dX12_changes_12 kf_X12_20 ?_
    refine s_rvB (fun r5 => ?_)
    refine s_bipush (pc := 15) 54 dX12_changes_15 kb_54 ?_
    refine s_grd (fun o6 => ?_)
    refine s_grd (fun i7 => ?_)
    refine s_iald (pc := 17) o6 i7 dX12_changes_17 ?_
    refine s_iconst (pc := 18) 0 dX12_changes_18 kc_0 ?_
    refine s_bind (fun q8 hq9 => ?_)
    have hC10 := t_X12_lists (l := xl X) (G := xG X) hq9
    refine s_callV (pc := 19) (As := [.int p1, .int (mI M r5 (54 : Int32).toNatClampNeg), .int 0]) (st := []) (nlt rfl) (q := (RX12, TX12, 59)) rfl rfl o4 cl_X12_lists wi_X12_lists wl_X12_lists km_X12_187 rfl rfl (nle rfl) (nle rfl) (nle rfl) dX12_changes_19 hC10 ?_
    have h11 := hC10.1 X
    have o12 := h11.ok o4
    show S0 X _ q8 22 [some (.ref (gh (xG X) + a0)), some (.int p1), some (.int p2)] [] _
    refine s_iload_n (pc := 22) 2 dX12_changes_22 rfl rfl ?_
    refine s_iconst (pc := 23) (-1) dX12_changes_23 kc_m1 ?_
    refine s_icne (pc := 24) 34 dX12_changes_24 rfl ?_ ?_
    · refine s_iload_n (pc := 34) 2 dX12_changes_34 rfl rfl ?_
      refine s_iconst (pc := 35) 0 dX12_changes_35 kc_0 ?_
      refine s_aload_n (pc := 36) 0 dX12_changes_36 rfl rfl ?_
      refine s_geti (pc := 37) F_12 11 rfl o12 dX12_changes_37 kf_X12_174 ?_
      refine s_iconst (pc := 40) 1 dX12_changes_40 kc_1 ?_
      refine s_isub (pc := 41) dX12_changes_41 ?_
      refine s_bind (fun q13 hq14 => ?_)
      have hC15 := t_X12_lies (l := xl X) (G := xG X) (M := q8) hq14
      refine s_callS (pc := 42) (As := [.int p2, .int 0, .int ((mI q8 a0 11) - 1)]) (st := []) cl_X12_lies wt_X12_lies km_X12_123 rfl rfl (nle rfl) (nle rfl) (nle rfl) dX12_changes_42 hC15 ?_
      show S0 X _ q8 45 [some (.ref (gh (xG X) + a0)), some (.int p1), some (.int p2)] [.int q13] _
      refine s_ifeq (pc := 45) 57 dX12_changes_45 rfl ?_ ?_
      · refine s_iconst (pc := 57) (-1) dX12_changes_57 kc_m1 ?_
        exact s_iret rfl dX12_changes_58
      · refine s_aload_n (pc := 48) 0 dX12_changes_48 rfl rfl ?_
        refine s_geto (pc := 49) F_12 9 rfl o12 dX12_changes_49 kf_X12_33 ?_
        refine s_rvB (fun r16 => ?_)
        refine s_iload_n (pc := 52) 2 dX12_changes_52 rfl rfl ?_
        refine s_grd (fun o17 => ?_)
        refine s_grd (fun i18 => ?_)
        refine s_iald (pc := 53) o17 i18 dX12_changes_53 ?_
        refine s_goto (pc := 54) 58 dX12_changes_54 rfl ?_
        exact s_iret rfl dX12_changes_58
    · refine s_aload_n (pc := 27) 0 dX12_changes_27 rfl rfl ?_
      refine s_geti (pc := 28) F_12 11 rfl o12 dX12_changes_28 kf_X12_174 ?_
      refine s_goto (pc := 31) 58 dX12_changes_31 rfl ?_
      exact s_iret rfl dX12_changes_58
  · refine s_iconst (pc := 7) (-1) dX12_changes_7 kc_m1 ?_
    exact s_iret rfl dX12_changes_8
set_option maxRecDepth 100000 in
set_option maxHeartbeats 8000000 in
noncomputable def f_X12_laysNext (M : Mem) (a0 : Nat) : Option Mem :=
  grd (okO M 12 a0) (if (mI M a0 34) = (mI M a0 1) then (some M) else (bv (wI M a0 34 (mI M a0 1)) (fun M2 => Option.bind (loopO (σ := Mem × Int32) (ρ := Mem) (fun s6 => if 9331 ≤ s6.2 then (some (.inr s6.1)) else (Option.bind (f_X12_dishAt s6.2) (fun q15 => Option.bind (mR s6.1 a0 3) (fun r18 => grd (okO s6.1 14 r18) (grd (vp_in 54 (mL s6.1 r18)) (Option.bind (f_X12_lists s6.1 a0 q15 (mI s6.1 r18 (54 : Int32).toNatClampNeg) 0) (fun q21 => Option.bind (mR q21 a0 33) (fun r26 => grd (okO q21 14 r26) (grd (vp_in s6.2 (mL q21 r26)) (bv (wI q21 r26 s6.2.toNatClampNeg (mI q21 a0 11)) (fun M29 => Option.bind (loopO (σ := Mem × Int32) (ρ := Mem) (fun s33 => if (mI s33.1 a0 11) ≤ s33.2 then (some (.inr s33.1)) else (Option.bind (mR s33.1 a0 32) (fun r42 => Option.bind (mR s33.1 a0 9) (fun r43 => grd (okO s33.1 14 r43) (grd (vp_in s33.2 (mL s33.1 r43)) (Option.bind (f_X12_placeOf (mI s33.1 r43 s33.2.toNatClampNeg)) (fun q46 => grd (okO s33.1 14 r42) (grd (vp_in ((46 * s6.2) + s33.2) (mL s33.1 r42)) (bv (wI s33.1 r42 ((46 * s6.2) + s33.2).toNatClampNeg q46) (fun M51 => bv (s33.2 + 1 : Int32) (fun x55 => some (.inl (M51, x55))))))))))))) (M29, 0)) (fun (x40 : Mem) => bv (s6.2 + 1 : Int32) (fun x57 => some (.inl (x40, x57))))))))))))))) (M2, 0)) (fun (x13 : Mem) => some x13))))
abbrev Y_X12_laysNext : Sta := (RX12, "laysNext", cX12_laysNext, 3, none, 208)
set_option maxRecDepth 100000 in
set_option maxHeartbeats 8000000 in
theorem t_X12_laysNext {l : Launch} {G : Gh} {M : Mem} {a0 : Nat} {q : Mem} (h : f_X12_laysNext M a0 = some q) : Ctr l G yX12_laysNext Y_X12_laysNext M [.ref (gh G + a0)] q (none) := by
  refine Ctr.of (Y := Y_X12_laysNext) (L := [some (.ref (gh G + a0)), none, none]) (t := Option.bind (f_X12_laysNext M a0) (fun q => some (q, (none : Option Value)))) (by decide) rfl rfl (nle rfl) (Lof_in 2 _ rfl) (fun X hG hl => ?_) (by rw [h]; rfl)
  subst hG
  subst hl
  unfold f_X12_laysNext
  refine s_aload_n (pc := 0) 0 dX12_laysNext_0 rfl rfl ?_
  refine s_grd (fun o1 => ?_)
  refine s_geti (pc := 1) F_12 34 rfl o1 dX12_laysNext_1 kf_X12_74 ?_
  refine s_aload_n (pc := 4) 0 dX12_laysNext_4 rfl rfl ?_
  refine s_geti (pc := 5) F_12 1 rfl o1 dX12_laysNext_5 kf_X12_11 ?_
  refine s_icne (pc := 8) 12 dX12_laysNext_8 rfl ?_ ?_
  · refine s_aload_n (pc := 12) 0 dX12_laysNext_12 rfl rfl ?_
    refine s_aload_n (pc := 13) 0 dX12_laysNext_13 rfl rfl ?_
    refine s_geti (pc := 14) F_12 1 rfl o1 dX12_laysNext_14 kf_X12_11 ?_
    refine s_puti (pc := 17) F_12 34 rfl o1 rfl rfl rfl dX12_laysNext_17 kf_X12_74 (fun M2 hM3 => ?_)
    have h4 := le_wI hM3
    have o5 := h4.ok o1
    refine s_iconst (pc := 20) 0 dX12_laysNext_20 kc_0 ?_
    refine s_istore_n (pc := 21) 1 dX12_laysNext_21 rfl (nlt rfl) rfl (L' := [some (.ref (gh (xG X) + a0)), some (.int 0), none]) rfl ?_
    refine s_drop (L' := [some (.ref (gh (xG X) + a0)), some (.int 0), none]) ?_ (And.intro rfl (And.intro rfl trivial))
    refine s_loop1 M2 (fun s6 : Mem × Int32 => s6.1) (fun s6 : Mem × Int32 => [some (.ref (gh (xG X) + a0)), some (.int s6.2), none]) (fun x13 : Mem => x13) 97 (fun x13 : Mem => [none, none, none]) (fun x13 hx14 => ?_) (fun T8 R10 hT9 hR11 s6 hs7 => ?_) (M2, 0) Le.rf
    · show S0 X _ x13 97 [none, none, none] [] _
      exact s_vret rfl dX12_laysNext_97
    · show S0 X _ s6.1 22 [some (.ref (gh (xG X) + a0)), some (.int s6.2), none] [] _
      have o12 := hs7.ok o5
      refine s_iload_n (pc := 22) 1 dX12_laysNext_22 rfl rfl ?_
      refine s_sipush (pc := 23) 9331 dX12_laysNext_23 ks_9331 ?_
      refine s_icge (pc := 26) 97 dX12_laysNext_26 rfl ?_ ?_
      · exact s_drop (hR11 s6.1 hs7) trivial
      · refine s_aload_n (pc := 29) 0 dX12_laysNext_29 rfl rfl ?_
        refine s_iload_n (pc := 30) 1 dX12_laysNext_30 rfl rfl ?_
        refine s_bind (fun q15 hq16 => ?_)
        have hC17 := t_X12_dishAt (l := xl X) (G := xG X) (M := s6.1) hq16
        refine s_callS (pc := 31) (As := [.int s6.2]) (st := [.ref (gh (xG X) + a0)]) cl_X12_dishAt wt_X12_dishAt km_X12_359 rfl rfl (nle rfl) (nle rfl) (nle rfl) dX12_laysNext_31 hC17 ?_
        show S0 X _ s6.1 34 [some (.ref (gh (xG X) + a0)), some (.int s6.2), none] [.int q15, .ref (gh (xG X) + a0)] _
        refine s_aload_n (pc := 34) 0 dX12_laysNext_34 rfl rfl ?_
        refine s_geto (pc := 35) F_12 3 rfl o12 dX12_laysNext_35 kf_X12_20 ?_
        refine s_rvB (fun r18 => ?_)
        refine s_bipush (pc := 38) 54 dX12_laysNext_38 kb_54 ?_
        refine s_grd (fun o19 => ?_)
        refine s_grd (fun i20 => ?_)
        refine s_iald (pc := 40) o19 i20 dX12_laysNext_40 ?_
        refine s_iconst (pc := 41) 0 dX12_laysNext_41 kc_0 ?_
        refine s_bind (fun q21 hq22 => ?_)
        have hC23 := t_X12_lists (l := xl X) (G := xG X) hq22
        refine s_callV (pc := 42) (As := [.int q15, .int (mI s6.1 r18 (54 : Int32).toNatClampNeg), .int 0]) (st := []) (nlt rfl) (q := (RX12, TX12, 59)) rfl rfl o12 cl_X12_lists wi_X12_lists wl_X12_lists km_X12_187 rfl rfl (nle rfl) (nle rfl) (nle rfl) dX12_laysNext_42 hC23 ?_
        have h24 := hC23.1 X
        have o25 := h24.ok o12
        show S0 X _ q21 45 [some (.ref (gh (xG X) + a0)), some (.int s6.2), none] [] _
        refine s_aload_n (pc := 45) 0 dX12_laysNext_45 rfl rfl ?_
        refine s_geto (pc := 46) F_12 33 rfl o25 dX12_laysNext_46 kf_X12_71 ?_
        refine s_rvB (fun r26 => ?_)
        refine s_iload_n (pc := 49) 1 dX12_laysNext_49 rfl rfl ?_
        refine s_aload_n (pc := 50) 0 dX12_laysNext_50 rfl rfl ?_
        refine s_geti (pc := 51) F_12 11 rfl o25 dX12_laysNext_51 kf_X12_174 ?_
        refine s_grd (fun o27 => ?_)
        refine s_grd (fun i28 => ?_)
        refine s_iast (pc := 54) o27 i28 dX12_laysNext_54 (fun M29 hM30 => ?_)
        have h31 := le_wI hM30
        have o32 := h31.ok o25
        refine s_iconst (pc := 55) 0 dX12_laysNext_55 kc_0 ?_
        refine s_istore_n (pc := 56) 2 dX12_laysNext_56 rfl (nlt rfl) rfl (L' := [some (.ref (gh (xG X) + a0)), some (.int s6.2), some (.int 0)]) rfl ?_
        refine s_drop (L' := [some (.ref (gh (xG X) + a0)), some (.int s6.2), some (.int 0)]) ?_ (And.intro rfl (And.intro rfl (And.intro rfl trivial)))
        refine s_loop1 M29 (fun s33 : Mem × Int32 => s33.1) (fun s33 : Mem × Int32 => [some (.ref (gh (xG X) + a0)), some (.int s6.2), some (.int s33.2)]) (fun x40 : Mem => x40) 91 (fun x40 : Mem => [some (.ref (gh (xG X) + a0)), some (.int s6.2), none]) (fun x40 hx41 => ?_) (fun T35 R37 hT36 hR38 s33 hs34 => ?_) (M29, 0) Le.rf
        · show S0 X _ x40 91 [some (.ref (gh (xG X) + a0)), some (.int s6.2), none] [] _
          have o56 := hx41.ok o32
          refine s_iinc (pc := 91) dX12_laysNext_91 rfl (v := s6.2 + 1) (congrArg (fun z : Int32 => s6.2 + z) kc_1) (nlt rfl) rfl (L' := [some (.ref (gh (xG X) + a0)), some (.int (s6.2 + 1)), none]) rfl ?_
          refine s_bv (fun x57 : Int32 => [some (.ref (gh (xG X) + a0)), some (.int x57), none]) (fun x57 => ?_) rfl
          refine s_goto (pc := 94) 22 dX12_laysNext_94 rfl ?_
          exact s_drop (hT9 (x40, x57) (hs7.tr (h24.tr (h31.tr hx41)))) (And.intro rfl (And.intro rfl trivial))
        · show S0 X _ s33.1 57 [some (.ref (gh (xG X) + a0)), some (.int s6.2), some (.int s33.2)] [] _
          have o39 := hs34.ok o32
          refine s_iload_n (pc := 57) 2 dX12_laysNext_57 rfl rfl ?_
          refine s_aload_n (pc := 58) 0 dX12_laysNext_58 rfl rfl ?_
          refine s_geti (pc := 59) F_12 11 rfl o39 dX12_laysNext_59 kf_X12_174 ?_
          refine s_icge (pc := 62) 91 dX12_laysNext_62 rfl ?_ ?_
          · exact s_drop (hR38 s33.1 hs34) (And.intro rfl (And.intro rfl trivial))
          · refine s_aload_n (pc := 65) 0 dX12_laysNext_65 rfl rfl ?_
            refine s_geto (pc := 66) F_12 32 rfl o39 dX12_laysNext_66 kf_X12_68 ?_
            refine s_rvB (fun r42 => ?_)
            refine s_bipush (pc := 69) 46 dX12_laysNext_69 kb_46 ?_
            refine s_iload_n (pc := 71) 1 dX12_laysNext_71 rfl rfl ?_
            refine s_imul (pc := 72) dX12_laysNext_72 ?_
            refine s_iload_n (pc := 73) 2 dX12_laysNext_73 rfl rfl ?_
            refine s_iadd (pc := 74) dX12_laysNext_74 ?_
            refine s_aload_n (pc := 75) 0 dX12_laysNext_75 rfl rfl ?_
            refine s_geto (pc := 76) F_12 9 rfl o39 dX12_laysNext_76 kf_X12_33 ?_
            refine s_rvB (fun r43 => ?_)
            refine s_iload_n (pc := 79) 2 dX12_laysNext_79 rfl rfl ?_
            refine s_grd (fun o44 => ?_)
            refine s_grd (fun i45 => ?_)
            refine s_iald (pc := 80) o44 i45 dX12_laysNext_80 ?_
            refine s_bind (fun q46 hq47 => ?_)
            have hC48 := t_X12_placeOf (l := xl X) (G := xG X) (M := s33.1) hq47
            refine s_callS (pc := 81) (As := [.int (mI s33.1 r43 s33.2.toNatClampNeg)]) (st := [.int ((46 * s6.2) + s33.2), .ref (gh (xG X) + r42)]) cl_X12_placeOf wt_X12_placeOf km_X12_362 rfl rfl (nle rfl) (nle rfl) (nle rfl) dX12_laysNext_81 hC48 ?_
            show S0 X _ s33.1 84 [some (.ref (gh (xG X) + a0)), some (.int s6.2), some (.int s33.2)] [.int q46, .int ((46 * s6.2) + s33.2), .ref (gh (xG X) + r42)] _
            refine s_grd (fun o49 => ?_)
            refine s_grd (fun i50 => ?_)
            refine s_iast (pc := 84) o49 i50 dX12_laysNext_84 (fun M51 hM52 => ?_)
            have h53 := le_wI hM52
            have o54 := h53.ok o39
            refine s_iinc (pc := 85) dX12_laysNext_85 rfl (v := s33.2 + 1) (congrArg (fun z : Int32 => s33.2 + z) kc_1) (nlt rfl) rfl (L' := [some (.ref (gh (xG X) + a0)), some (.int s6.2), some (.int (s33.2 + 1))]) rfl ?_
            refine s_bv (fun x55 : Int32 => [some (.ref (gh (xG X) + a0)), some (.int s6.2), some (.int x55)]) (fun x55 => ?_) rfl
            refine s_goto (pc := 88) 57 dX12_laysNext_88 rfl ?_
            exact s_drop (hT36 (M51, x55) (hs34.tr h53)) (And.intro rfl (And.intro rfl (And.intro rfl trivial)))
  · exact s_vret rfl dX12_laysNext_11
set_option maxRecDepth 100000 in
set_option maxHeartbeats 8000000 in
noncomputable def f_X12_leadsTo (M : Mem) (a0 : Nat) (p1 : Int32) (p2 : Int32) (p3 : Int32) : Option (Mem × Int32) :=
  grd (okO M 12 a0) (Option.bind (f_X12_lists M a0 p1 p3 0) (fun q2 => Option.bind (loopO (σ := Int32) (ρ := Unit ⊕ Unit) (fun s7 => if (mI q2 a0 11) ≤ s7 then (some (.inr (.inl ()))) else (Option.bind (mR q2 a0 9) (fun r19 => grd (okO q2 14 r19) (grd (vp_in s7 (mL q2 r19)) (if (mI q2 r19 s7.toNatClampNeg) = p2 then (some (.inr (.inr ()))) else (bv (s7 + 1 : Int32) (fun x22 => some (.inl x22)))))))) 0) (Sum.elim (fun (x15 : Unit) => some (q2, 0)) (fun (x17 : Unit) => some (q2, 1)))))
abbrev Y_X12_leadsTo : Sta := (RX12, "leadsTo", cX12_leadsTo, 5, (some .boolean), 208)
set_option maxRecDepth 100000 in
set_option maxHeartbeats 8000000 in
theorem t_X12_leadsTo {l : Launch} {G : Gh} {M : Mem} {a0 : Nat} {p1 : Int32} {p2 : Int32} {p3 : Int32} {q : Mem × Int32} (h : f_X12_leadsTo M a0 p1 p2 p3 = some q) : Ctr l G yX12_leadsTo Y_X12_leadsTo M [.ref (gh G + a0), .int p1, .int p2, .int p3] q.1 (some (.int q.2)) := by
  refine Ctr.of (Y := Y_X12_leadsTo) (L := [some (.ref (gh G + a0)), some (.int p1), some (.int p2), some (.int p3), none]) (t := Option.bind (f_X12_leadsTo M a0 p1 p2 p3) (fun q => some (q.1, some (.int q.2)))) (by decide) rfl rfl (nle rfl) (Lof_in 1 _ rfl) (fun X hG hl => ?_) (by rw [h]; rfl)
  subst hG
  subst hl
  unfold f_X12_leadsTo
  refine s_aload_n (pc := 0) 0 dX12_leadsTo_0 rfl rfl ?_
  refine s_iload_n (pc := 1) 1 dX12_leadsTo_1 rfl rfl ?_
  refine s_iload_n (pc := 2) 3 dX12_leadsTo_2 rfl rfl ?_
  refine s_iconst (pc := 3) 0 dX12_leadsTo_3 kc_0 ?_
  refine s_grd (fun o1 => ?_)
  refine s_bind (fun q2 hq3 => ?_)
  have hC4 := t_X12_lists (l := xl X) (G := xG X) hq3
  refine s_callV (pc := 4) (As := [.int p1, .int p3, .int 0]) (st := []) (nlt rfl) (q := (RX12, TX12, 59)) rfl rfl o1 cl_X12_lists wi_X12_lists wl_X12_lists km_X12_187 rfl rfl (nle rfl) (nle rfl) (nle rfl) dX12_leadsTo_4 hC4 ?_
  have h5 := hC4.1 X
  have o6 := h5.ok o1
  show S0 X _ q2 7 [some (.ref (gh (xG X) + a0)), some (.int p1), some (.int p2), some (.int p3), none] [] _
  refine s_iconst (pc := 7) 0 dX12_leadsTo_7 kc_0 ?_
  refine s_istore (pc := 8) dX12_leadsTo_8 (nlt rfl) rfl (L' := [some (.ref (gh (xG X) + a0)), some (.int p1), some (.int p2), some (.int p3), some (.int 0)]) rfl ?_
  refine s_drop (L' := [some (.ref (gh (xG X) + a0)), none, some (.int p2), none, some (.int 0)]) ?_ (And.intro rfl (And.intro rfl (And.intro rfl trivial)))
  refine s_loop2 q2 (fun s7 : Int32 => q2) (fun s7 : Int32 => [some (.ref (gh (xG X) + a0)), none, some (.int p2), none, some (.int s7)]) (fun x15 : Unit => q2) 38 (fun x15 : Unit => [none, none, none, none, none]) (fun x17 : Unit => q2) 30 (fun x17 : Unit => [none, none, none, none, none]) (fun x15 hx16 => ?_) (fun x17 hx18 => ?_) (fun T9 R11 R13 hT10 hR12 hR14 s7 hs8 => ?_) 0 Le.rf
  · show S0 X _ q2 38 [none, none, none, none, none] [] _
    refine s_iconst (pc := 38) 0 dX12_leadsTo_38 kc_0 ?_
    exact s_zret rfl rfl dX12_leadsTo_39
  · show S0 X _ q2 30 [none, none, none, none, none] [] _
    refine s_iconst (pc := 30) 1 dX12_leadsTo_30 kc_1 ?_
    exact s_zret rfl rfl dX12_leadsTo_31
  · show S0 X _ q2 10 [some (.ref (gh (xG X) + a0)), none, some (.int p2), none, some (.int s7)] [] _
    refine s_iload (pc := 10) dX12_leadsTo_10 rfl ?_
    refine s_aload_n (pc := 12) 0 dX12_leadsTo_12 rfl rfl ?_
    refine s_geti (pc := 13) F_12 11 rfl o6 dX12_leadsTo_13 kf_X12_174 ?_
    refine s_icge (pc := 16) 38 dX12_leadsTo_16 rfl ?_ ?_
    · exact s_drop (hR12 () Le.rf) trivial
    · refine s_aload_n (pc := 19) 0 dX12_leadsTo_19 rfl rfl ?_
      refine s_geto (pc := 20) F_12 9 rfl o6 dX12_leadsTo_20 kf_X12_33 ?_
      refine s_rvB (fun r19 => ?_)
      refine s_iload (pc := 23) dX12_leadsTo_23 rfl ?_
      refine s_grd (fun o20 => ?_)
      refine s_grd (fun i21 => ?_)
      refine s_iald (pc := 25) o20 i21 dX12_leadsTo_25 ?_
      refine s_iload_n (pc := 26) 2 dX12_leadsTo_26 rfl rfl ?_
      refine s_icne (pc := 27) 32 dX12_leadsTo_27 rfl ?_ ?_
      · refine s_iinc (pc := 32) dX12_leadsTo_32 rfl (v := s7 + 1) (congrArg (fun z : Int32 => s7 + z) kc_1) (nlt rfl) rfl (L' := [some (.ref (gh (xG X) + a0)), none, some (.int p2), none, some (.int (s7 + 1))]) rfl ?_
        refine s_bv (fun x22 : Int32 => [some (.ref (gh (xG X) + a0)), none, some (.int p2), none, some (.int x22)]) (fun x22 => ?_) rfl
        refine s_goto (pc := 35) 10 dX12_leadsTo_35 rfl ?_
        exact s_drop (hT10 x22 Le.rf) (And.intro rfl (And.intro rfl (And.intro rfl trivial)))
      · exact s_drop (hR14 () Le.rf) trivial
