noncomputable def f_X12_readClause (M : Mem) (a0 : Nat) : Option Mem :=
  grd (okO M 12 a0) (Option.bind (f_X12_takes0 M a0 1) (fun q2 => bv (fun (s8 : Mem) => Option.bind (f_X12_takes0 s8 a0 3) (fun q12 => if q12.2 = 0 then (some q12.1) else (Option.bind (f_X12_readTest 100 q12.1 a0 0) (fun q17 => some q17)))) (fun j7 => if q2.2 = 0 then (Option.bind (f_X12_must q2.1 a0 2) (fun q22 => j7 q22)) else (Option.bind (f_X12_readSum 100 q2.1 a0 0) (fun q27 => j7 q27)))))
abbrev Y_X12_readClause : Sta := (RX12, "readClause", cX12_readClause, 1, none, 106)
set_option maxRecDepth 100000 in
set_option maxHeartbeats 8000000 in
theorem t_X12_readClause {l : Launch} {G : Gh} {M : Mem} {a0 : Nat} {q : Mem} (h : f_X12_readClause M a0 = some q) : Ctr l G yX12_readClause Y_X12_readClause M [.ref (gh G + a0)] q (none) := by
  refine Ctr.of (Y := Y_X12_readClause) (L := [some (.ref (gh G + a0))]) (t := Option.bind (f_X12_readClause M a0) (fun q => some (q, (none : Option Value)))) (by decide) rfl rfl (nle rfl) (Lof_in 0 _ rfl) (fun X hG hl => ?_) (by rw [h]; rfl)
  subst hG
  subst hl
  unfold f_X12_readClause
  refine s_aload_n (pc := 0) 0 dX12_readClause_0 rfl rfl ?_
  refine s_iconst (pc := 1) 1 dX12_readClause_1 kc_1 ?_
  refine s_grd (fun o1 => ?_)
  refine s_bind (fun q2 hq3 => ?_)
  have hC4 := t_X12_takes0 (l := xl X) (G := xG X) hq3
  refine s_callV (pc := 2) (As := [.int 1]) (st := []) (nlt rfl) (q := (RX12, TX12, 59)) rfl rfl o1 cl_X12_takes0 wi_X12_takes0 wl_X12_takes0 km_X12_240 rfl rfl (nle rfl) (nle rfl) (nle rfl) dX12_readClause_2 hC4 ?_
  have h5 := hC4.1 X
  have o6 := h5.ok o1
  show S0 X _ q2.1 5 [some (.ref (gh (xG X) + a0))] [.int q2.2] _
  refine s_join q2.1 (fun s8 : Mem => s8) 21 (fun s8 : Mem => [some (.ref (gh (xG X) + a0))]) (fun s8 : Mem => []) (fun s8 hs9 => ?_) (fun j7 hj10 => ?_)
  · show S0 X _ s8 21 [some (.ref (gh (xG X) + a0))] [] _
    have o11 := hs9.ok o6
    refine s_aload_n (pc := 21) 0 dX12_readClause_21 rfl rfl ?_
    refine s_iconst (pc := 22) 3 dX12_readClause_22 kc_3 ?_
    refine s_bind (fun q12 hq13 => ?_)
    have hC14 := t_X12_takes0 (l := xl X) (G := xG X) hq13
    refine s_callV (pc := 23) (As := [.int 3]) (st := []) (nlt rfl) (q := (RX12, TX12, 59)) rfl rfl o11 cl_X12_takes0 wi_X12_takes0 wl_X12_takes0 km_X12_240 rfl rfl (nle rfl) (nle rfl) (nle rfl) dX12_readClause_23 hC14 ?_
    have h15 := hC14.1 X
    have o16 := h15.ok o11
    show S0 X _ q12.1 26 [some (.ref (gh (xG X) + a0))] [.int q12.2] _
    refine s_ifeq (pc := 26) 34 dX12_readClause_26 rfl ?_ ?_
    · exact s_vret rfl dX12_readClause_34
    · refine s_aload_n (pc := 29) 0 dX12_readClause_29 rfl rfl ?_
      refine s_iconst (pc := 30) 0 dX12_readClause_30 kc_0 ?_
      refine s_bind (fun q17 hq18 => ?_)
      have hC19 := tf_X12_readTest (l := xl X) (G := xG X) hq18
      refine s_callV (pc := 31) (As := [.int 0]) (st := []) (nlt rfl) (q := (RX12, TX12, 59)) rfl rfl o16 cl_X12_readTest wi_X12_readTest wl_X12_readTest km_X12_259 rfl rfl (nle rfl) (nle rfl) (nle rfl) dX12_readClause_31 hC19 ?_
      have h20 := hC19.1 X
      have o21 := h20.ok o16
      show S0 X _ q17 34 [some (.ref (gh (xG X) + a0))] [] _
      exact s_vret rfl dX12_readClause_34
  · refine s_ifeq (pc := 5) 16 dX12_readClause_5 rfl ?_ ?_
    · refine s_aload_n (pc := 16) 0 dX12_readClause_16 rfl rfl ?_
      refine s_iconst (pc := 17) 2 dX12_readClause_17 kc_2 ?_
      refine s_bind (fun q22 hq23 => ?_)
      have hC24 := t_X12_must (l := xl X) (G := xG X) hq23
      refine s_callV (pc := 18) (As := [.int 2]) (st := []) (nlt rfl) (q := (RX12, TX12, 59)) rfl rfl o6 cl_X12_must wi_X12_must wl_X12_must km_X12_256 rfl rfl (nle rfl) (nle rfl) (nle rfl) dX12_readClause_18 hC24 ?_
      have h25 := hC24.1 X
      have o26 := h25.ok o6
      show S0 X _ q22 21 [some (.ref (gh (xG X) + a0))] [] _
      exact s_drop (hj10 q22 h25) (And.intro rfl trivial)
    · refine s_aload_n (pc := 8) 0 dX12_readClause_8 rfl rfl ?_
      refine s_iconst (pc := 9) 0 dX12_readClause_9 kc_0 ?_
      refine s_bind (fun q27 hq28 => ?_)
      have hC29 := tf_X12_readSum (l := xl X) (G := xG X) hq28
      refine s_callV (pc := 10) (As := [.int 0]) (st := []) (nlt rfl) (q := (RX12, TX12, 59)) rfl rfl o6 cl_X12_readSum wi_X12_readSum wl_X12_readSum km_X12_253 rfl rfl (nle rfl) (nle rfl) (nle rfl) dX12_readClause_10 hC29 ?_
      have h30 := hC29.1 X
      have o31 := h30.ok o6
      show S0 X _ q27 13 [some (.ref (gh (xG X) + a0))] [] _
      refine s_goto (pc := 13) 21 dX12_readClause_13 rfl ?_
      exact s_drop (hj10 q27 h30) (And.intro rfl trivial)
noncomputable def f_X12_readOrder (M : Mem) (a0 : Nat) : Option Mem :=
  grd (okO M 12 a0) (Option.bind (f_X12_takes0 M a0 19) (fun q2 => bv (fun (s8 : Mem) => Option.bind (f_X12_takes0 s8 a0 26) (fun q12 => bv (fun (s18 : Mem) => Option.bind (f_X12_takes0 s18 a0 3) (fun q22 => if q22.2 = 0 then (some q22.1) else (Option.bind (f_X12_readTest 100 q22.1 a0 0) (fun q27 => some q27)))) (fun j17 => if q12.2 = 0 then (j17 q12.1) else (Option.bind (f_X12_mustNumber q12.1 a0 1 20) (fun q32 => j17 q32))))) (fun j7 => if q2.2 = 0 then (Option.bind (f_X12_must q2.1 a0 13) (fun q37 => Option.bind (f_X12_readSum 100 q37 a0 0) (fun q42 => j7 q42))) else (Option.bind (f_X12_readSum 100 q2.1 a0 0) (fun q47 => Option.bind (f_X12_takes0 q47 a0 24) (fun q52 => bv (fun (s58 : Mem) => Option.bind (f_X12_must s58 a0 25) (fun q62 => Option.bind (f_X12_readSum 100 q62 a0 0) (fun q67 => j7 q67))) (fun j57 => if q52.2 = 0 then (Option.bind (f_X12_takes0 q52.1 a0 20) (fun q72 => if q72.2 = 0 then (Option.bind (f_X12_takes0 q72.1 a0 21) (fun q77 => if q77.2 = 0 then (Option.bind (f_X12_takes0 q77.1 a0 22) (fun q82 => if q82.2 = 0 then (Option.bind (f_X12_must q82.1 a0 23) (fun q87 => j57 q87)) else (j57 q82.1))) else (j57 q77.1))) else (j57 q72.1))) else (Option.bind (f_X12_readSum 100 q52.1 a0 0) (fun q92 => j57 q92)))))))))
abbrev Y_X12_readOrder : Sta := (RX12, "readOrder", cX12_readOrder, 1, none, 106)
set_option maxRecDepth 100000 in
set_option maxHeartbeats 8000000 in
theorem t_X12_readOrder {l : Launch} {G : Gh} {M : Mem} {a0 : Nat} {q : Mem} (h : f_X12_readOrder M a0 = some q) : Ctr l G yX12_readOrder Y_X12_readOrder M [.ref (gh G + a0)] q (none) := by
  refine Ctr.of (Y := Y_X12_readOrder) (L := [some (.ref (gh G + a0))]) (t := Option.bind (f_X12_readOrder M a0) (fun q => some (q, (none : Option Value)))) (by decide) rfl rfl (nle rfl) (Lof_in 0 _ rfl) (fun X hG hl => ?_) (by rw [h]; rfl)
  subst hG
  subst hl
  unfold f_X12_readOrder
  refine s_aload_n (pc := 0) 0 dX12_readOrder_0 rfl rfl ?_
  refine s_bipush (pc := 1) 19 dX12_readOrder_1 kb_19 ?_
  refine s_grd (fun o1 => ?_)
  refine s_bind (fun q2 hq3 => ?_)
  have hC4 := t_X12_takes0 (l := xl X) (G := xG X) hq3
  refine s_callV (pc := 3) (As := [.int 19]) (st := []) (nlt rfl) (q := (RX12, TX12, 59)) rfl rfl o1 cl_X12_takes0 wi_X12_takes0 wl_X12_takes0 km_X12_240 rfl rfl (nle rfl) (nle rfl) (nle rfl) dX12_readOrder_3 hC4 ?_
  have h5 := hC4.1 X
  have o6 := h5.ok o1
  show S0 X _ q2.1 6 [some (.ref (gh (xG X) + a0))] [.int q2.2] _
  refine s_join q2.1 (fun s8 : Mem => s8) 89 (fun s8 : Mem => [some (.ref (gh (xG X) + a0))]) (fun s8 : Mem => []) (fun s8 hs9 => ?_) (fun j7 hj10 => ?_)
  · show S0 X _ s8 89 [some (.ref (gh (xG X) + a0))] [] _
    have o11 := hs9.ok o6
    refine s_aload_n (pc := 89) 0 dX12_readOrder_89 rfl rfl ?_
    refine s_bipush (pc := 90) 26 dX12_readOrder_90 kb_26 ?_
    refine s_bind (fun q12 hq13 => ?_)
    have hC14 := t_X12_takes0 (l := xl X) (G := xG X) hq13
    refine s_callV (pc := 92) (As := [.int 26]) (st := []) (nlt rfl) (q := (RX12, TX12, 59)) rfl rfl o11 cl_X12_takes0 wi_X12_takes0 wl_X12_takes0 km_X12_240 rfl rfl (nle rfl) (nle rfl) (nle rfl) dX12_readOrder_92 hC14 ?_
    have h15 := hC14.1 X
    have o16 := h15.ok o11
    show S0 X _ q12.1 95 [some (.ref (gh (xG X) + a0))] [.int q12.2] _
    refine s_join q12.1 (fun s18 : Mem => s18) 105 (fun s18 : Mem => [some (.ref (gh (xG X) + a0))]) (fun s18 : Mem => []) (fun s18 hs19 => ?_) (fun j17 hj20 => ?_)
    · show S0 X _ s18 105 [some (.ref (gh (xG X) + a0))] [] _
      have o21 := hs19.ok o16
      refine s_aload_n (pc := 105) 0 dX12_readOrder_105 rfl rfl ?_
      refine s_iconst (pc := 106) 3 dX12_readOrder_106 kc_3 ?_
      refine s_bind (fun q22 hq23 => ?_)
      have hC24 := t_X12_takes0 (l := xl X) (G := xG X) hq23
      refine s_callV (pc := 107) (As := [.int 3]) (st := []) (nlt rfl) (q := (RX12, TX12, 59)) rfl rfl o21 cl_X12_takes0 wi_X12_takes0 wl_X12_takes0 km_X12_240 rfl rfl (nle rfl) (nle rfl) (nle rfl) dX12_readOrder_107 hC24 ?_
      have h25 := hC24.1 X
      have o26 := h25.ok o21
      show S0 X _ q22.1 110 [some (.ref (gh (xG X) + a0))] [.int q22.2] _
      refine s_ifeq (pc := 110) 118 dX12_readOrder_110 rfl ?_ ?_
      · exact s_vret rfl dX12_readOrder_118
      · refine s_aload_n (pc := 113) 0 dX12_readOrder_113 rfl rfl ?_
        refine s_iconst (pc := 114) 0 dX12_readOrder_114 kc_0 ?_
        refine s_bind (fun q27 hq28 => ?_)
        have hC29 := tf_X12_readTest (l := xl X) (G := xG X) hq28
        refine s_callV (pc := 115) (As := [.int 0]) (st := []) (nlt rfl) (q := (RX12, TX12, 59)) rfl rfl o26 cl_X12_readTest wi_X12_readTest wl_X12_readTest km_X12_259 rfl rfl (nle rfl) (nle rfl) (nle rfl) dX12_readOrder_115 hC29 ?_
        have h30 := hC29.1 X
        have o31 := h30.ok o26
        show S0 X _ q27 118 [some (.ref (gh (xG X) + a0))] [] _
        exact s_vret rfl dX12_readOrder_118
    · refine s_ifeq (pc := 95) 105 dX12_readOrder_95 rfl ?_ ?_
      · exact s_drop (hj20 q12.1 Le.rf) (And.intro rfl trivial)
      · refine s_aload_n (pc := 98) 0 dX12_readOrder_98 rfl rfl ?_
        refine s_iconst (pc := 99) 1 dX12_readOrder_99 kc_1 ?_
        refine s_bipush (pc := 100) 20 dX12_readOrder_100 kb_20 ?_
        refine s_bind (fun q32 hq33 => ?_)
        have hC34 := t_X12_mustNumber (l := xl X) (G := xG X) hq33
        refine s_callV (pc := 102) (As := [.int 1, .int 20]) (st := []) (nlt rfl) (q := (RX12, TX12, 59)) rfl rfl o16 cl_X12_mustNumber wi_X12_mustNumber wl_X12_mustNumber km_X12_262 rfl rfl (nle rfl) (nle rfl) (nle rfl) dX12_readOrder_102 hC34 ?_
        have h35 := hC34.1 X
        have o36 := h35.ok o16
        show S0 X _ q32 105 [some (.ref (gh (xG X) + a0))] [] _
        exact s_drop (hj20 q32 h35) (And.intro rfl trivial)
  · refine s_ifeq (pc := 6) 78 dX12_readOrder_6 rfl ?_ ?_
    · refine s_aload_n (pc := 78) 0 dX12_readOrder_78 rfl rfl ?_
      refine s_bipush (pc := 79) 13 dX12_readOrder_79 kb_13 ?_
      refine s_bind (fun q37 hq38 => ?_)
      have hC39 := t_X12_must (l := xl X) (G := xG X) hq38
      refine s_callV (pc := 81) (As := [.int 13]) (st := []) (nlt rfl) (q := (RX12, TX12, 59)) rfl rfl o6 cl_X12_must wi_X12_must wl_X12_must km_X12_256 rfl rfl (nle rfl) (nle rfl) (nle rfl) dX12_readOrder_81 hC39 ?_
      have h40 := hC39.1 X
      have o41 := h40.ok o6
      show S0 X _ q37 84 [some (.ref (gh (xG X) + a0))] [] _
      refine s_aload_n (pc := 84) 0 dX12_readOrder_84 rfl rfl ?_
      refine s_iconst (pc := 85) 0 dX12_readOrder_85 kc_0 ?_
      refine s_bind (fun q42 hq43 => ?_)
      have hC44 := tf_X12_readSum (l := xl X) (G := xG X) hq43
      refine s_callV (pc := 86) (As := [.int 0]) (st := []) (nlt rfl) (q := (RX12, TX12, 59)) rfl rfl o41 cl_X12_readSum wi_X12_readSum wl_X12_readSum km_X12_253 rfl rfl (nle rfl) (nle rfl) (nle rfl) dX12_readOrder_86 hC44 ?_
      have h45 := hC44.1 X
      have o46 := h45.ok o41
      show S0 X _ q42 89 [some (.ref (gh (xG X) + a0))] [] _
      exact s_drop (hj10 q42 (h40.tr h45)) (And.intro rfl trivial)
    · refine s_aload_n (pc := 9) 0 dX12_readOrder_9 rfl rfl ?_
      refine s_iconst (pc := 10) 0 dX12_readOrder_10 kc_0 ?_
      refine s_bind (fun q47 hq48 => ?_)
      have hC49 := tf_X12_readSum (l := xl X) (G := xG X) hq48
      refine s_callV (pc := 11) (As := [.int 0]) (st := []) (nlt rfl) (q := (RX12, TX12, 59)) rfl rfl o6 cl_X12_readSum wi_X12_readSum wl_X12_readSum km_X12_253 rfl rfl (nle rfl) (nle rfl) (nle rfl) dX12_readOrder_11 hC49 ?_
      have h50 := hC49.1 X
      have o51 := h50.ok o6
      show S0 X _ q47 14 [some (.ref (gh (xG X) + a0))] [] _
      refine s_aload_n (pc := 14) 0 dX12_readOrder_14 rfl rfl ?_
      refine s_bipush (pc := 15) 24 dX12_readOrder_15 kb_24 ?_
      refine s_bind (fun q52 hq53 => ?_)
      have hC54 := t_X12_takes0 (l := xl X) (G := xG X) hq53
      refine s_callV (pc := 17) (As := [.int 24]) (st := []) (nlt rfl) (q := (RX12, TX12, 59)) rfl rfl o51 cl_X12_takes0 wi_X12_takes0 wl_X12_takes0 km_X12_240 rfl rfl (nle rfl) (nle rfl) (nle rfl) dX12_readOrder_17 hC54 ?_
      have h55 := hC54.1 X
      have o56 := h55.ok o51
      show S0 X _ q52.1 20 [some (.ref (gh (xG X) + a0))] [.int q52.2] _
      refine s_join q52.1 (fun s58 : Mem => s58) 64 (fun s58 : Mem => [some (.ref (gh (xG X) + a0))]) (fun s58 : Mem => []) (fun s58 hs59 => ?_) (fun j57 hj60 => ?_)
      · show S0 X _ s58 64 [some (.ref (gh (xG X) + a0))] [] _
        have o61 := hs59.ok o56
        refine s_aload_n (pc := 64) 0 dX12_readOrder_64 rfl rfl ?_
        refine s_bipush (pc := 65) 25 dX12_readOrder_65 kb_25 ?_
        refine s_bind (fun q62 hq63 => ?_)
        have hC64 := t_X12_must (l := xl X) (G := xG X) hq63
        refine s_callV (pc := 67) (As := [.int 25]) (st := []) (nlt rfl) (q := (RX12, TX12, 59)) rfl rfl o61 cl_X12_must wi_X12_must wl_X12_must km_X12_256 rfl rfl (nle rfl) (nle rfl) (nle rfl) dX12_readOrder_67 hC64 ?_
        have h65 := hC64.1 X
        have o66 := h65.ok o61
        show S0 X _ q62 70 [some (.ref (gh (xG X) + a0))] [] _
        refine s_aload_n (pc := 70) 0 dX12_readOrder_70 rfl rfl ?_
        refine s_iconst (pc := 71) 0 dX12_readOrder_71 kc_0 ?_
        refine s_bind (fun q67 hq68 => ?_)
        have hC69 := tf_X12_readSum (l := xl X) (G := xG X) hq68
        refine s_callV (pc := 72) (As := [.int 0]) (st := []) (nlt rfl) (q := (RX12, TX12, 59)) rfl rfl o66 cl_X12_readSum wi_X12_readSum wl_X12_readSum km_X12_253 rfl rfl (nle rfl) (nle rfl) (nle rfl) dX12_readOrder_72 hC69 ?_
        have h70 := hC69.1 X
        have o71 := h70.ok o66
        show S0 X _ q67 75 [some (.ref (gh (xG X) + a0))] [] _
        refine s_goto (pc := 75) 89 dX12_readOrder_75 rfl ?_
        exact s_drop (hj10 q67 (h50.tr (h55.tr (hs59.tr (h65.tr h70))))) (And.intro rfl trivial)
      · refine s_ifeq (pc := 20) 31 dX12_readOrder_20 rfl ?_ ?_
        · refine s_aload_n (pc := 31) 0 dX12_readOrder_31 rfl rfl ?_
          refine s_bipush (pc := 32) 20 dX12_readOrder_32 kb_20 ?_
          refine s_bind (fun q72 hq73 => ?_)
          have hC74 := t_X12_takes0 (l := xl X) (G := xG X) hq73
          refine s_callV (pc := 34) (As := [.int 20]) (st := []) (nlt rfl) (q := (RX12, TX12, 59)) rfl rfl o56 cl_X12_takes0 wi_X12_takes0 wl_X12_takes0 km_X12_240 rfl rfl (nle rfl) (nle rfl) (nle rfl) dX12_readOrder_34 hC74 ?_
          have h75 := hC74.1 X
          have o76 := h75.ok o56
          show S0 X _ q72.1 37 [some (.ref (gh (xG X) + a0))] [.int q72.2] _
          refine s_ifne (pc := 37) 64 dX12_readOrder_37 rfl ?_ ?_
          · exact s_drop (hj60 q72.1 h75) (And.intro rfl trivial)
          · refine s_aload_n (pc := 40) 0 dX12_readOrder_40 rfl rfl ?_
            refine s_bipush (pc := 41) 21 dX12_readOrder_41 kb_21 ?_
            refine s_bind (fun q77 hq78 => ?_)
            have hC79 := t_X12_takes0 (l := xl X) (G := xG X) hq78
            refine s_callV (pc := 43) (As := [.int 21]) (st := []) (nlt rfl) (q := (RX12, TX12, 59)) rfl rfl o76 cl_X12_takes0 wi_X12_takes0 wl_X12_takes0 km_X12_240 rfl rfl (nle rfl) (nle rfl) (nle rfl) dX12_readOrder_43 hC79 ?_
            have h80 := hC79.1 X
            have o81 := h80.ok o76
            show S0 X _ q77.1 46 [some (.ref (gh (xG X) + a0))] [.int q77.2] _
            refine s_ifne (pc := 46) 64 dX12_readOrder_46 rfl ?_ ?_
            · exact s_drop (hj60 q77.1 (h75.tr h80)) (And.intro rfl trivial)
            · refine s_aload_n (pc := 49) 0 dX12_readOrder_49 rfl rfl ?_
              refine s_bipush (pc := 50) 22 dX12_readOrder_50 kb_22 ?_
              refine s_bind (fun q82 hq83 => ?_)
              have hC84 := t_X12_takes0 (l := xl X) (G := xG X) hq83
              refine s_callV (pc := 52) (As := [.int 22]) (st := []) (nlt rfl) (q := (RX12, TX12, 59)) rfl rfl o81 cl_X12_takes0 wi_X12_takes0 wl_X12_takes0 km_X12_240 rfl rfl (nle rfl) (nle rfl) (nle rfl) dX12_readOrder_52 hC84 ?_
              have h85 := hC84.1 X
              have o86 := h85.ok o81
              show S0 X _ q82.1 55 [some (.ref (gh (xG X) + a0))] [.int q82.2] _
              refine s_ifne (pc := 55) 64 dX12_readOrder_55 rfl ?_ ?_
              · exact s_drop (hj60 q82.1 (h75.tr (h80.tr h85))) (And.intro rfl trivial)
              · refine s_aload_n (pc := 58) 0 dX12_readOrder_58 rfl rfl ?_
                refine s_bipush (pc := 59) 23 dX12_readOrder_59 kb_23 ?_
                refine s_bind (fun q87 hq88 => ?_)
                have hC89 := t_X12_must (l := xl X) (G := xG X) hq88
                refine s_callV (pc := 61) (As := [.int 23]) (st := []) (nlt rfl) (q := (RX12, TX12, 59)) rfl rfl o86 cl_X12_must wi_X12_must wl_X12_must km_X12_256 rfl rfl (nle rfl) (nle rfl) (nle rfl) dX12_readOrder_61 hC89 ?_
                have h90 := hC89.1 X
                have o91 := h90.ok o86
                show S0 X _ q87 64 [some (.ref (gh (xG X) + a0))] [] _
                exact s_drop (hj60 q87 (h75.tr (h80.tr (h85.tr h90)))) (And.intro rfl trivial)
        · refine s_aload_n (pc := 23) 0 dX12_readOrder_23 rfl rfl ?_
          refine s_iconst (pc := 24) 0 dX12_readOrder_24 kc_0 ?_
          refine s_bind (fun q92 hq93 => ?_)
          have hC94 := tf_X12_readSum (l := xl X) (G := xG X) hq93
          refine s_callV (pc := 25) (As := [.int 0]) (st := []) (nlt rfl) (q := (RX12, TX12, 59)) rfl rfl o56 cl_X12_readSum wi_X12_readSum wl_X12_readSum km_X12_253 rfl rfl (nle rfl) (nle rfl) (nle rfl) dX12_readOrder_25 hC94 ?_
          have h95 := hC94.1 X
          have o96 := h95.ok o56
          show S0 X _ q92 28 [some (.ref (gh (xG X) + a0))] [] _
          refine s_goto (pc := 28) 64 dX12_readOrder_28 rfl ?_
          exact s_drop (hj60 q92 h95) (And.intro rfl trivial)
noncomputable def f_X12_weighs (M : Mem) (a0 : Nat) (x1 : Int32) (x2 : Int32) (x3 : Int32) (x4 : Int32) : Option (Mem × Int32) :=
  grd (okO M 12 a0) (Option.bind (f_X12_sets M a0 x1 x2 x3 x4) (fun q2 => Option.bind (f_X12_tells q2 a0 1 1) (fun q7 => some (q7.1, q7.2))))
abbrev Y_X12_weighs : Sta := (RX12, "weighs", cX12_weighs, 5, (some .int), 106)
set_option maxRecDepth 100000 in
set_option maxHeartbeats 8000000 in
theorem t_X12_weighs {l : Launch} {G : Gh} {M : Mem} {a0 : Nat} {x1 : Int32} {x2 : Int32} {x3 : Int32} {x4 : Int32} {q : Mem × Int32} (h : f_X12_weighs M a0 x1 x2 x3 x4 = some q) : Ctr l G yX12_weighs Y_X12_weighs M [.ref (gh G + a0), .int x1, .int x2, .int x3, .int x4] q.1 (some (.int q.2)) := by
  refine Ctr.of (Y := Y_X12_weighs) (L := [some (.ref (gh G + a0)), some (.int x1), some (.int x2), some (.int x3), some (.int x4)]) (t := Option.bind (f_X12_weighs M a0 x1 x2 x3 x4) (fun q => some (q.1, some (.int q.2)))) (by decide) rfl rfl (nle rfl) (Lof_in 0 _ rfl) (fun X hG hl => ?_) (by rw [h]; rfl)
  subst hG
  subst hl
  unfold f_X12_weighs
  refine s_aload_n (pc := 0) 0 dX12_weighs_0 rfl rfl ?_
  refine s_iload_n (pc := 1) 1 dX12_weighs_1 rfl rfl ?_
  refine s_iload_n (pc := 2) 2 dX12_weighs_2 rfl rfl ?_
  refine s_iload_n (pc := 3) 3 dX12_weighs_3 rfl rfl ?_
  refine s_iload (pc := 4) dX12_weighs_4 rfl ?_
  refine s_grd (fun o1 => ?_)
  refine s_bind (fun q2 hq3 => ?_)
  have hC4 := t_X12_sets (l := xl X) (G := xG X) hq3
  refine s_callV (pc := 6) (As := [.int x1, .int x2, .int x3, .int x4]) (st := []) (nlt rfl) (q := (RX12, TX12, 59)) rfl rfl o1 cl_X12_sets wi_X12_sets wl_X12_sets km_X12_167 rfl rfl (nle rfl) (nle rfl) (nle rfl) dX12_weighs_6 hC4 ?_
  have h5 := hC4.1 X
  have o6 := h5.ok o1
  show S0 X _ q2 9 [some (.ref (gh (xG X) + a0)), some (.int x1), some (.int x2), some (.int x3), some (.int x4)] [] _
  refine s_aload_n (pc := 9) 0 dX12_weighs_9 rfl rfl ?_
  refine s_iconst (pc := 10) 1 dX12_weighs_10 kc_1 ?_
  refine s_iconst (pc := 11) 1 dX12_weighs_11 kc_1 ?_
  refine s_bind (fun q7 hq8 => ?_)
  have hC9 := t_X12_tells (l := xl X) (G := xG X) hq8
  refine s_callV (pc := 12) (As := [.int 1, .int 1]) (st := []) (nlt rfl) (q := (RX12, TX12, 59)) rfl rfl o6 cl_X12_tells wi_X12_tells wl_X12_tells km_X12_171 rfl rfl (nle rfl) (nle rfl) (nle rfl) dX12_weighs_12 hC9 ?_
  have h10 := hC9.1 X
  have o11 := h10.ok o6
  show S0 X _ q7.1 15 [some (.ref (gh (xG X) + a0)), some (.int x1), some (.int x2), some (.int x3), some (.int x4)] [.int q7.2] _
  exact s_iret rfl dX12_weighs_15
noncomputable def f_X12_bears (M : Mem) (a0 : Nat) (x1 : Int32) (x2 : Int32) (x3 : Int32) (x4 : Int32) : Option (Mem × Int32) :=
  Option.bind (f_X12_lies x2 0 4) (fun q1 => if q1 = 0 then (some (M, (-1))) else (Option.bind (f_X12_isPlace x3) (fun q4 => if q4 = 0 then (some (M, (-1))) else (bv (fun (s8 : Unit) => grd (okO M 12 a0) (Option.bind (f_X12_isHouse M a0 x1) (fun q12 => if q12 = 0 then (some (M, (-2))) else (Option.bind (mR M a0 3) (fun r15 => grd (okO M 14 r15) (grd (vp_in 54 (mL M r15)) (bv (mI M r15 (54 : Int32).toNatClampNeg : Int32) (fun x18 => Option.bind (f_X12_fact M a0 x1 2) (fun q19 => Option.bind (f_X12_changed M a0 q19 x2 x3 x4 x18) (fun q22 => if q22.2 = (-1) then (some (q22.1, (-3))) else (Option.bind (f_X12_fact q22.1 a0 x1 1) (fun q27 => if q27 ≤ x18 then (Option.bind (mR q22.1 a0 3) (fun r30 => grd (okO q22.1 14 r30) (grd (vp_in 56 (mL q22.1 r30)) (if (mI q22.1 r30 (56 : Int32).toNatClampNeg) = 12 then (some (q22.1, (-5))) else (Option.bind (f_X12_adds q22.1 a0 x1 x18 q22.2) (fun q33 => Option.bind (mR q33 a0 3) (fun r38 => grd (okO q33 14 r38) (grd (vp_in 56 (mL q33 r38)) (some (q33, (mI q33 r38 (56 : Int32).toNatClampNeg) - 1)))))))))) else (some (q22.1, (-3))))))))))))))) (fun j7 => if x2 = 1 then (Option.bind (f_X12_isThing x4) (fun q41 => if q41 = 0 then (some (M, (-1))) else (j7 ()))) else (j7 ()))))))
abbrev Y_X12_bears : Sta := (RX12, "bears", cX12_bears, 7, (some .int), 107)
set_option maxRecDepth 100000 in
set_option maxHeartbeats 8000000 in
theorem t_X12_bears {l : Launch} {G : Gh} {M : Mem} {a0 : Nat} {x1 : Int32} {x2 : Int32} {x3 : Int32} {x4 : Int32} {q : Mem × Int32} (h : f_X12_bears M a0 x1 x2 x3 x4 = some q) : Ctr l G yX12_bears Y_X12_bears M [.ref (gh G + a0), .int x1, .int x2, .int x3, .int x4] q.1 (some (.int q.2)) := by
  refine Ctr.of (Y := Y_X12_bears) (L := [some (.ref (gh G + a0)), some (.int x1), some (.int x2), some (.int x3), some (.int x4), none, none]) (t := Option.bind (f_X12_bears M a0 x1 x2 x3 x4) (fun q => some (q.1, some (.int q.2)))) (by decide) rfl rfl (nle rfl) (Lof_in 2 _ rfl) (fun X hG hl => ?_) (by rw [h]; rfl)
  subst hG
  subst hl
  unfold f_X12_bears
  refine s_iload_n (pc := 0) 2 dX12_bears_0 rfl rfl ?_
  refine s_iconst (pc := 1) 0 dX12_bears_1 kc_0 ?_
  refine s_iconst (pc := 2) 4 dX12_bears_2 kc_4 ?_
  refine s_bind (fun q1 hq2 => ?_)
  have hC3 := t_X12_lies (l := xl X) (G := xG X) (M := M) hq2
  refine s_callS (pc := 3) (As := [.int x2, .int 0, .int 4]) (st := []) cl_X12_lies wt_X12_lies km_X12_123 rfl rfl (nle rfl) (nle rfl) (nle rfl) dX12_bears_3 hC3 ?_
  show S0 X _ M 6 [some (.ref (gh (xG X) + a0)), some (.int x1), some (.int x2), some (.int x3), some (.int x4), none, none] [.int q1] _
  refine s_ifeq (pc := 6) 29 dX12_bears_6 rfl ?_ ?_
  · refine s_iconst (pc := 29) (-1) dX12_bears_29 kc_m1 ?_
    exact s_iret rfl dX12_bears_30
  · refine s_iload_n (pc := 9) 3 dX12_bears_9 rfl rfl ?_
    refine s_bind (fun q4 hq5 => ?_)
    have hC6 := t_X12_isPlace (l := xl X) (G := xG X) (M := M) hq5
    refine s_callS (pc := 10) (As := [.int x3]) (st := []) cl_X12_isPlace wt_X12_isPlace km_X12_205 rfl rfl (nle rfl) (nle rfl) (nle rfl) dX12_bears_10 hC6 ?_
    show S0 X _ M 13 [some (.ref (gh (xG X) + a0)), some (.int x1), some (.int x2), some (.int x3), some (.int x4), none, none] [.int q4] _
    refine s_ifeq (pc := 13) 29 dX12_bears_13 rfl ?_ ?_
    · refine s_iconst (pc := 29) (-1) dX12_bears_29 kc_m1 ?_
      exact s_iret rfl dX12_bears_30
    · refine s_iload_n (pc := 16) 2 dX12_bears_16 rfl rfl ?_
      refine s_iconst (pc := 17) 1 dX12_bears_17 kc_1 ?_
      refine s_join M (fun s8 : Unit => M) 31 (fun s8 : Unit => [some (.ref (gh (xG X) + a0)), some (.int x1), some (.int x2), some (.int x3), some (.int x4), none, none]) (fun s8 : Unit => []) (fun s8 hs9 => ?_) (fun j7 hj10 => ?_)
      · show S0 X _ M 31 [some (.ref (gh (xG X) + a0)), some (.int x1), some (.int x2), some (.int x3), some (.int x4), none, none] [] _
        refine s_aload_n (pc := 31) 0 dX12_bears_31 rfl rfl ?_
        refine s_iload_n (pc := 32) 1 dX12_bears_32 rfl rfl ?_
        refine s_grd (fun o11 => ?_)
        refine s_bind (fun q12 hq13 => ?_)
        have hC14 := t_X12_isHouse (l := xl X) (G := xG X) hq13
        refine s_callV (pc := 33) (As := [.int x1]) (st := []) (nlt rfl) (q := (RX12, TX12, 59)) rfl rfl o11 cl_X12_isHouse wi_X12_isHouse wl_X12_isHouse km_X12_191 rfl rfl (nle rfl) (nle rfl) (nle rfl) dX12_bears_33 hC14 ?_
        show S0 X _ M 36 [some (.ref (gh (xG X) + a0)), some (.int x1), some (.int x2), some (.int x3), some (.int x4), none, none] [.int q12] _
        refine s_ifne (pc := 36) 42 dX12_bears_36 rfl ?_ ?_
        · refine s_aload_n (pc := 42) 0 dX12_bears_42 rfl rfl ?_
          refine s_geto (pc := 43) F_12 3 rfl o11 dX12_bears_43 kf_X12_20 ?_
          refine s_rvB (fun r15 => ?_)
          refine s_bipush (pc := 46) 54 dX12_bears_46 kb_54 ?_
          refine s_grd (fun o16 => ?_)
          refine s_grd (fun i17 => ?_)
          refine s_iald (pc := 48) o16 i17 dX12_bears_48 ?_
          refine s_istore (pc := 49) dX12_bears_49 (nlt rfl) rfl (L' := [some (.ref (gh (xG X) + a0)), some (.int x1), some (.int x2), some (.int x3), some (.int x4), some (.int (mI M r15 (54 : Int32).toNatClampNeg)), none]) rfl ?_
          refine s_bv (fun x18 : Int32 => [some (.ref (gh (xG X) + a0)), some (.int x1), some (.int x2), some (.int x3), some (.int x4), some (.int x18), none]) (fun x18 => ?_) rfl
          refine s_aload_n (pc := 51) 0 dX12_bears_51 rfl rfl ?_
          refine s_aload_n (pc := 52) 0 dX12_bears_52 rfl rfl ?_
          refine s_iload_n (pc := 53) 1 dX12_bears_53 rfl rfl ?_
          refine s_iconst (pc := 54) 2 dX12_bears_54 kc_2 ?_
          refine s_bind (fun q19 hq20 => ?_)
          have hC21 := t_X12_fact (l := xl X) (G := xG X) hq20
          refine s_callV (pc := 55) (As := [.int x1, .int 2]) (st := [.ref (gh (xG X) + a0)]) (nlt rfl) (q := (RX12, TX12, 59)) rfl rfl o11 cl_X12_fact wi_X12_fact wl_X12_fact km_X12_194 rfl rfl (nle rfl) (nle rfl) (nle rfl) dX12_bears_55 hC21 ?_
          show S0 X _ M 58 [some (.ref (gh (xG X) + a0)), some (.int x1), some (.int x2), some (.int x3), some (.int x4), some (.int x18), none] [.int q19, .ref (gh (xG X) + a0)] _
          refine s_iload_n (pc := 58) 2 dX12_bears_58 rfl rfl ?_
          refine s_iload_n (pc := 59) 3 dX12_bears_59 rfl rfl ?_
          refine s_iload (pc := 60) dX12_bears_60 rfl ?_
          refine s_iload (pc := 62) dX12_bears_62 rfl ?_
          refine s_bind (fun q22 hq23 => ?_)
          have hC24 := t_X12_changed (l := xl X) (G := xG X) hq23
          refine s_callV (pc := 64) (As := [.int q19, .int x2, .int x3, .int x4, .int x18]) (st := []) (nlt rfl) (q := (RX12, TX12, 59)) rfl rfl o11 cl_X12_changed wi_X12_changed wl_X12_changed km_X12_177 rfl rfl (nle rfl) (nle rfl) (nle rfl) dX12_bears_64 hC24 ?_
          have h25 := hC24.1 X
          have o26 := h25.ok o11
          show S0 X _ q22.1 67 [some (.ref (gh (xG X) + a0)), some (.int x1), some (.int x2), some (.int x3), some (.int x4), some (.int x18), none] [.int q22.2] _
          refine s_istore (pc := 67) dX12_bears_67 (nlt rfl) rfl (L' := [some (.ref (gh (xG X) + a0)), some (.int x1), some (.int x2), some (.int x3), some (.int x4), some (.int x18), some (.int q22.2)]) rfl ?_
          refine s_iload (pc := 69) dX12_bears_69 rfl ?_
          refine s_iconst (pc := 71) (-1) dX12_bears_71 kc_m1 ?_
          refine s_iceq (pc := 72) 86 dX12_bears_72 rfl ?_ ?_
          · refine s_bipush (pc := 86) (-3) dX12_bears_86 kb_m3 ?_
            exact s_iret rfl dX12_bears_88
          · refine s_iload (pc := 75) dX12_bears_75 rfl ?_
            refine s_aload_n (pc := 77) 0 dX12_bears_77 rfl rfl ?_
            refine s_iload_n (pc := 78) 1 dX12_bears_78 rfl rfl ?_
            refine s_iconst (pc := 79) 1 dX12_bears_79 kc_1 ?_
            refine s_bind (fun q27 hq28 => ?_)
            have hC29 := t_X12_fact (l := xl X) (G := xG X) hq28
            refine s_callV (pc := 80) (As := [.int x1, .int 1]) (st := [.int x18]) (nlt rfl) (q := (RX12, TX12, 59)) rfl rfl o26 cl_X12_fact wi_X12_fact wl_X12_fact km_X12_194 rfl rfl (nle rfl) (nle rfl) (nle rfl) dX12_bears_80 hC29 ?_
            show S0 X _ q22.1 83 [some (.ref (gh (xG X) + a0)), some (.int x1), some (.int x2), some (.int x3), some (.int x4), some (.int x18), some (.int q22.2)] [.int q27, .int x18] _
            refine s_icge (pc := 83) 89 dX12_bears_83 rfl ?_ ?_
            · refine s_aload_n (pc := 89) 0 dX12_bears_89 rfl rfl ?_
              refine s_geto (pc := 90) F_12 3 rfl o26 dX12_bears_90 kf_X12_20 ?_
              refine s_rvB (fun r30 => ?_)
              refine s_bipush (pc := 93) 56 dX12_bears_93 kb_56 ?_
              refine s_grd (fun o31 => ?_)
              refine s_grd (fun i32 => ?_)
              refine s_iald (pc := 95) o31 i32 dX12_bears_95 ?_
              refine s_bipush (pc := 96) 12 dX12_bears_96 kb_12 ?_
              refine s_icne (pc := 98) 104 dX12_bears_98 rfl ?_ ?_
              · refine s_aload_n (pc := 104) 0 dX12_bears_104 rfl rfl ?_
                refine s_iload_n (pc := 105) 1 dX12_bears_105 rfl rfl ?_
                refine s_iload (pc := 106) dX12_bears_106 rfl ?_
                refine s_iload (pc := 108) dX12_bears_108 rfl ?_
                refine s_bind (fun q33 hq34 => ?_)
                have hC35 := t_X12_adds (l := xl X) (G := xG X) hq34
                refine s_callV (pc := 110) (As := [.int x1, .int x18, .int q22.2]) (st := []) (nlt rfl) (q := (RX12, TX12, 59)) rfl rfl o26 cl_X12_adds wi_X12_adds wl_X12_adds km_X12_201 rfl rfl (nle rfl) (nle rfl) (nle rfl) dX12_bears_110 hC35 ?_
                have h36 := hC35.1 X
                have o37 := h36.ok o26
                show S0 X _ q33 113 [some (.ref (gh (xG X) + a0)), some (.int x1), some (.int x2), some (.int x3), some (.int x4), some (.int x18), some (.int q22.2)] [] _
                refine s_aload_n (pc := 113) 0 dX12_bears_113 rfl rfl ?_
                refine s_geto (pc := 114) F_12 3 rfl o37 dX12_bears_114 kf_X12_20 ?_
                refine s_rvB (fun r38 => ?_)
                refine s_bipush (pc := 117) 56 dX12_bears_117 kb_56 ?_
                refine s_grd (fun o39 => ?_)
                refine s_grd (fun i40 => ?_)
                refine s_iald (pc := 119) o39 i40 dX12_bears_119 ?_
                refine s_iconst (pc := 120) 1 dX12_bears_120 kc_1 ?_
                refine s_isub (pc := 121) dX12_bears_121 ?_
                exact s_iret rfl dX12_bears_122
              · refine s_bipush (pc := 101) (-5) dX12_bears_101 kb_m5 ?_
                exact s_iret rfl dX12_bears_103
            · refine s_bipush (pc := 86) (-3) dX12_bears_86 kb_m3 ?_
              exact s_iret rfl dX12_bears_88
        · refine s_bipush (pc := 39) (-2) dX12_bears_39 kb_m2 ?_
          exact s_iret rfl dX12_bears_41
      · refine s_icne (pc := 18) 31 dX12_bears_18 rfl ?_ ?_
        · exact s_drop (hj10 () Le.rf) (And.intro rfl (And.intro rfl (And.intro rfl (And.intro rfl (And.intro rfl trivial)))))
        · refine s_iload (pc := 21) dX12_bears_21 rfl ?_
          refine s_bind (fun q41 hq42 => ?_)
          have hC43 := t_X12_isThing (l := xl X) (G := xG X) (M := M) hq42
          refine s_callS (pc := 23) (As := [.int x4]) (st := []) cl_X12_isThing wt_X12_isThing km_X12_134 rfl rfl (nle rfl) (nle rfl) (nle rfl) dX12_bears_23 hC43 ?_
          show S0 X _ M 26 [some (.ref (gh (xG X) + a0)), some (.int x1), some (.int x2), some (.int x3), some (.int x4), none, none] [.int q41] _
          refine s_ifne (pc := 26) 31 dX12_bears_26 rfl ?_ ?_
          · exact s_drop (hj10 () Le.rf) (And.intro rfl (And.intro rfl (And.intro rfl (And.intro rfl (And.intro rfl trivial)))))
          · refine s_iconst (pc := 29) (-1) dX12_bears_29 kc_m1 ?_
            exact s_iret rfl dX12_bears_30
noncomputable def f_X12_change (M : Mem) (a0 : Nat) (x1 : Int32) (x2 : Int32) (x3 : Int32) (x4 : Int32) (x5 : Int32) : Option (Mem × Int32) :=
  Option.bind (f_X12_isDish x1) (fun q1 => if q1 = 0 then (some (M, (-1))) else (Option.bind (f_X12_lies x2 0 4) (fun q4 => if q4 = 0 then (some (M, (-1))) else (bv (fun (s8 : Unit) => Option.bind (f_X12_lies x5 0 1) (fun q11 => if q11 = 0 then (some (M, (-1))) else (grd (okO M 12 a0) (Option.bind (mR M a0 3) (fun r15 => grd (okO M 14 r15) (grd (vp_in 54 (mL M r15)) (Option.bind (f_X12_changed M a0 x1 x2 x3 x4 (mI M r15 (54 : Int32).toNatClampNeg)) (fun q18 => if q18.2 = (-1) then (some (q18.1, (-1))) else (if x5 = 0 then (some (q18.1, q18.2)) else (Option.bind (mR q18.1 a0 3) (fun r23 => grd (okO q18.1 14 r23) (grd (vp_in 54 (mL q18.1 r23)) (Option.bind (f_X12_weighs q18.1 a0 x1 x2 x3 (mI q18.1 r23 (54 : Int32).toNatClampNeg)) (fun q26 => some (q26.1, q26.2))))))))))))))) (fun j7 => if x2 = 1 then (Option.bind (f_X12_isThing x4) (fun q31 => if q31 = 0 then (some (M, (-1))) else (j7 ()))) else (j7 ()))))))
abbrev Y_X12_change : Sta := (RX12, "change", cX12_change, 7, (some .int), 107)
set_option maxRecDepth 100000 in
set_option maxHeartbeats 8000000 in
theorem t_X12_change {l : Launch} {G : Gh} {M : Mem} {a0 : Nat} {x1 : Int32} {x2 : Int32} {x3 : Int32} {x4 : Int32} {x5 : Int32} {q : Mem × Int32} (h : f_X12_change M a0 x1 x2 x3 x4 x5 = some q) : Ctr l G yX12_change Y_X12_change M [.ref (gh G + a0), .int x1, .int x2, .int x3, .int x4, .int x5] q.1 (some (.int q.2)) := by
  refine Ctr.of (Y := Y_X12_change) (L := [some (.ref (gh G + a0)), some (.int x1), some (.int x2), some (.int x3), some (.int x4), some (.int x5), none]) (t := Option.bind (f_X12_change M a0 x1 x2 x3 x4 x5) (fun q => some (q.1, some (.int q.2)))) (by decide) rfl rfl (nle rfl) (Lof_in 1 _ rfl) (fun X hG hl => ?_) (by rw [h]; rfl)
  subst hG
  subst hl
  unfold f_X12_change
  refine s_iload_n (pc := 0) 1 dX12_change_0 rfl rfl ?_
  refine s_bind (fun q1 hq2 => ?_)
  have hC3 := t_X12_isDish (l := xl X) (G := xG X) (M := M) hq2
  refine s_callS (pc := 1) (As := [.int x1]) (st := []) cl_X12_isDish wt_X12_isDish km_X12_184 rfl rfl (nle rfl) (nle rfl) (nle rfl) dX12_change_1 hC3 ?_
  show S0 X _ M 4 [some (.ref (gh (xG X) + a0)), some (.int x1), some (.int x2), some (.int x3), some (.int x4), some (.int x5), none] [.int q1] _
  refine s_ifeq (pc := 4) 39 dX12_change_4 rfl ?_ ?_
  · refine s_iconst (pc := 39) (-1) dX12_change_39 kc_m1 ?_
    exact s_iret rfl dX12_change_40
  · refine s_iload_n (pc := 7) 2 dX12_change_7 rfl rfl ?_
    refine s_iconst (pc := 8) 0 dX12_change_8 kc_0 ?_
    refine s_iconst (pc := 9) 4 dX12_change_9 kc_4 ?_
    refine s_bind (fun q4 hq5 => ?_)
    have hC6 := t_X12_lies (l := xl X) (G := xG X) (M := M) hq5
    refine s_callS (pc := 10) (As := [.int x2, .int 0, .int 4]) (st := []) cl_X12_lies wt_X12_lies km_X12_123 rfl rfl (nle rfl) (nle rfl) (nle rfl) dX12_change_10 hC6 ?_
    show S0 X _ M 13 [some (.ref (gh (xG X) + a0)), some (.int x1), some (.int x2), some (.int x3), some (.int x4), some (.int x5), none] [.int q4] _
    refine s_ifeq (pc := 13) 39 dX12_change_13 rfl ?_ ?_
    · refine s_iconst (pc := 39) (-1) dX12_change_39 kc_m1 ?_
      exact s_iret rfl dX12_change_40
    · refine s_iload_n (pc := 16) 2 dX12_change_16 rfl rfl ?_
      refine s_iconst (pc := 17) 1 dX12_change_17 kc_1 ?_
      refine s_join M (fun s8 : Unit => M) 29 (fun s8 : Unit => [some (.ref (gh (xG X) + a0)), some (.int x1), some (.int x2), some (.int x3), some (.int x4), some (.int x5), none]) (fun s8 : Unit => []) (fun s8 hs9 => ?_) (fun j7 hj10 => ?_)
      · show S0 X _ M 29 [some (.ref (gh (xG X) + a0)), some (.int x1), some (.int x2), some (.int x3), some (.int x4), some (.int x5), none] [] _
        refine s_iload (pc := 29) dX12_change_29 rfl ?_
        refine s_iconst (pc := 31) 0 dX12_change_31 kc_0 ?_
        refine s_iconst (pc := 32) 1 dX12_change_32 kc_1 ?_
        refine s_bind (fun q11 hq12 => ?_)
        have hC13 := t_X12_lies (l := xl X) (G := xG X) (M := M) hq12
        refine s_callS (pc := 33) (As := [.int x5, .int 0, .int 1]) (st := []) cl_X12_lies wt_X12_lies km_X12_123 rfl rfl (nle rfl) (nle rfl) (nle rfl) dX12_change_33 hC13 ?_
        show S0 X _ M 36 [some (.ref (gh (xG X) + a0)), some (.int x1), some (.int x2), some (.int x3), some (.int x4), some (.int x5), none] [.int q11] _
        refine s_ifne (pc := 36) 41 dX12_change_36 rfl ?_ ?_
        · refine s_aload_n (pc := 41) 0 dX12_change_41 rfl rfl ?_
          refine s_iload_n (pc := 42) 1 dX12_change_42 rfl rfl ?_
          refine s_iload_n (pc := 43) 2 dX12_change_43 rfl rfl ?_
          refine s_iload_n (pc := 44) 3 dX12_change_44 rfl rfl ?_
          refine s_iload (pc := 45) dX12_change_45 rfl ?_
          refine s_aload_n (pc := 47) 0 dX12_change_47 rfl rfl ?_
          refine s_grd (fun o14 => ?_)
          refine s_geto (pc := 48) F_12 3 rfl o14 dX12_change_48 kf_X12_20 ?_
          refine s_rvB (fun r15 => ?_)
          refine s_bipush (pc := 51) 54 dX12_change_51 kb_54 ?_
          refine s_grd (fun o16 => ?_)
          refine s_grd (fun i17 => ?_)
          refine s_iald (pc := 53) o16 i17 dX12_change_53 ?_
          refine s_bind (fun q18 hq19 => ?_)
          have hC20 := t_X12_changed (l := xl X) (G := xG X) hq19
          refine s_callV (pc := 54) (As := [.int x1, .int x2, .int x3, .int x4, .int (mI M r15 (54 : Int32).toNatClampNeg)]) (st := []) (nlt rfl) (q := (RX12, TX12, 59)) rfl rfl o14 cl_X12_changed wi_X12_changed wl_X12_changed km_X12_177 rfl rfl (nle rfl) (nle rfl) (nle rfl) dX12_change_54 hC20 ?_
          have h21 := hC20.1 X
          have o22 := h21.ok o14
          show S0 X _ q18.1 57 [some (.ref (gh (xG X) + a0)), some (.int x1), some (.int x2), some (.int x3), some (.int x4), some (.int x5), none] [.int q18.2] _
          refine s_istore (pc := 57) dX12_change_57 (nlt rfl) rfl (L' := [some (.ref (gh (xG X) + a0)), some (.int x1), some (.int x2), some (.int x3), some (.int x4), some (.int x5), some (.int q18.2)]) rfl ?_
          refine s_iload (pc := 59) dX12_change_59 rfl ?_
          refine s_iconst (pc := 61) (-1) dX12_change_61 kc_m1 ?_
          refine s_icne (pc := 62) 69 dX12_change_62 rfl ?_ ?_
          · refine s_iload (pc := 69) dX12_change_69 rfl ?_
            refine s_ifne (pc := 71) 79 dX12_change_71 rfl ?_ ?_
            · refine s_aload_n (pc := 79) 0 dX12_change_79 rfl rfl ?_
              refine s_iload_n (pc := 80) 1 dX12_change_80 rfl rfl ?_
              refine s_iload_n (pc := 81) 2 dX12_change_81 rfl rfl ?_
              refine s_iload_n (pc := 82) 3 dX12_change_82 rfl rfl ?_
              refine s_aload_n (pc := 83) 0 dX12_change_83 rfl rfl ?_
              refine s_geto (pc := 84) F_12 3 rfl o22 dX12_change_84 kf_X12_20 ?_
              refine s_rvB (fun r23 => ?_)
              refine s_bipush (pc := 87) 54 dX12_change_87 kb_54 ?_
              refine s_grd (fun o24 => ?_)
              refine s_grd (fun i25 => ?_)
              refine s_iald (pc := 89) o24 i25 dX12_change_89 ?_
              refine s_bind (fun q26 hq27 => ?_)
              have hC28 := t_X12_weighs (l := xl X) (G := xG X) hq27
              refine s_callV (pc := 90) (As := [.int x1, .int x2, .int x3, .int (mI q18.1 r23 (54 : Int32).toNatClampNeg)]) (st := []) (nlt rfl) (q := (RX12, TX12, 59)) rfl rfl o22 cl_X12_weighs wi_X12_weighs wl_X12_weighs km_X12_181 rfl rfl (nle rfl) (nle rfl) (nle rfl) dX12_change_90 hC28 ?_
              have h29 := hC28.1 X
              have o30 := h29.ok o22
              show S0 X _ q26.1 93 [some (.ref (gh (xG X) + a0)), some (.int x1), some (.int x2), some (.int x3), some (.int x4), some (.int x5), some (.int q18.2)] [.int q26.2] _
              exact s_iret rfl dX12_change_93
            · refine s_iload (pc := 74) dX12_change_74 rfl ?_
              refine s_goto (pc := 76) 93 dX12_change_76 rfl ?_
              exact s_iret rfl dX12_change_93
          · refine s_iconst (pc := 65) (-1) dX12_change_65 kc_m1 ?_
            refine s_goto (pc := 66) 93 dX12_change_66 rfl ?_
            exact s_iret rfl dX12_change_93
        · refine s_iconst (pc := 39) (-1) dX12_change_39 kc_m1 ?_
          exact s_iret rfl dX12_change_40
      · refine s_icne (pc := 18) 29 dX12_change_18 rfl ?_ ?_
        · exact s_drop (hj10 () Le.rf) (And.intro rfl (And.intro rfl (And.intro rfl (And.intro rfl (And.intro rfl (And.intro rfl trivial))))))
        · refine s_iload (pc := 21) dX12_change_21 rfl ?_
          refine s_bind (fun q31 hq32 => ?_)
          have hC33 := t_X12_isThing (l := xl X) (G := xG X) (M := M) hq32
          refine s_callS (pc := 23) (As := [.int x4]) (st := []) cl_X12_isThing wt_X12_isThing km_X12_134 rfl rfl (nle rfl) (nle rfl) (nle rfl) dX12_change_23 hC33 ?_
          show S0 X _ M 26 [some (.ref (gh (xG X) + a0)), some (.int x1), some (.int x2), some (.int x3), some (.int x4), some (.int x5), none] [.int q31] _
          refine s_ifeq (pc := 26) 39 dX12_change_26 rfl ?_ ?_
          · refine s_iconst (pc := 39) (-1) dX12_change_39 kc_m1 ?_
            exact s_iret rfl dX12_change_40
          · exact s_drop (hj10 () Le.rf) (And.intro rfl (And.intro rfl (And.intro rfl (And.intro rfl (And.intro rfl (And.intro rfl trivial))))))
noncomputable def f_X12_lists (M : Mem) (a0 : Nat) (x1 : Int32) (x2 : Int32) (x3 : Int32) : Option Mem :=
  grd (okO M 12 a0) (bv (wI M a0 11 0) (fun M2 => Option.bind (f_X12_longOf x1) (fun q6 => Option.bind (loopO (σ := Mem × Int32) (ρ := Mem) (fun s9 => if 5 ≤ s9.2 then (some (.inr s9.1)) else (Option.bind (loopO (σ := Mem × Int32) (ρ := Mem) (fun s18 => if q6 < s18.2 then (some (.inr s18.1)) else (Option.bind (loopO (σ := Mem × Int32) (ρ := Mem) (fun s27 => bv (fun (s37 : Int32) => if s37 ≤ s27.2 then (some (.inr s27.1)) else (Option.bind (f_X12_changed s27.1 a0 x1 s9.2 s18.2 s27.2 x2) (fun q40 => bv (fun (s46 : Mem) => bv (s27.2 + 1 : Int32) (fun x50 => some (.inl (s46, x50)))) (fun j45 => if q40.2 = (-1) then (j45 q40.1) else (Option.bind (mR q40.1 a0 9) (fun r51 => grd (okO q40.1 14 r51) (grd (vp_in (mI q40.1 a0 11) (mL q40.1 r51)) (bv (wI q40.1 r51 (mI q40.1 a0 11).toNatClampNeg q40.2) (fun M54 => Option.bind (mR M54 a0 10) (fun r58 => bv (fun (s60 : Mem × Int32) => grd (okO s60.1 14 r58) (grd (vp_in (mI M54 a0 11) (mL s60.1 r58)) (bv (wI s60.1 r58 (mI M54 a0 11).toNatClampNeg s60.2) (fun M66 => bv (wI M66 a0 11 ((mI M66 a0 11) + 1)) (fun M70 => j45 M70))))) (fun j59 => if x3 = 0 then (j59 (M54, 0)) else (Option.bind (f_X12_weighs M54 a0 x1 s9.2 s18.2 x2) (fun q74 => j59 (q74.1, q74.2)))))))))))))) (fun j36 => if s9.2 = 1 then (j36 6) else (j36 1))) (s18.1, 0)) (fun (x34 : Mem) => bv (s18.2 + 1 : Int32) (fun x80 => some (.inl (x34, x80)))))) (s9.1, 0)) (fun (x25 : Mem) => bv (s9.2 + 1 : Int32) (fun x82 => some (.inl (x25, x82)))))) (M2, 0)) (fun (x16 : Mem) => some x16))))
abbrev Y_X12_lists : Sta := (RX12, "lists", cX12_lists, 9, none, 107)
set_option maxRecDepth 100000 in
set_option maxHeartbeats 8000000 in
theorem t_X12_lists {l : Launch} {G : Gh} {M : Mem} {a0 : Nat} {x1 : Int32} {x2 : Int32} {x3 : Int32} {q : Mem} (h : f_X12_lists M a0 x1 x2 x3 = some q) : Ctr l G yX12_lists Y_X12_lists M [.ref (gh G + a0), .int x1, .int x2, .int x3] q (none) := by
  refine Ctr.of (Y := Y_X12_lists) (L := [some (.ref (gh G + a0)), some (.int x1), some (.int x2), some (.int x3), none, none, none, none, none]) (t := Option.bind (f_X12_lists M a0 x1 x2 x3) (fun q => some (q, (none : Option Value)))) (by decide) rfl rfl (nle rfl) (Lof_in 5 _ rfl) (fun X hG hl => ?_) (by rw [h]; rfl)
  subst hG
  subst hl
  unfold f_X12_lists
  refine s_aload_n (pc := 0) 0 dX12_lists_0 rfl rfl ?_
  refine s_iconst (pc := 1) 0 dX12_lists_1 kc_0 ?_
  refine s_grd (fun o1 => ?_)
  refine s_puti (pc := 2) F_12 11 rfl o1 rfl rfl rfl dX12_lists_2 kf_X12_174 (fun M2 hM3 => ?_)
  have h4 := le_wI hM3
  have o5 := h4.ok o1
  refine s_iload_n (pc := 5) 1 dX12_lists_5 rfl rfl ?_
  refine s_bind (fun q6 hq7 => ?_)
  have hC8 := t_X12_longOf (l := xl X) (G := xG X) (M := M2) hq7
  refine s_callS (pc := 6) (As := [.int x1]) (st := []) cl_X12_longOf wt_X12_longOf km_X12_156 rfl rfl (nle rfl) (nle rfl) (nle rfl) dX12_lists_6 hC8 ?_
  show S0 X _ M2 9 [some (.ref (gh (xG X) + a0)), some (.int x1), some (.int x2), some (.int x3), none, none, none, none, none] [.int q6] _
  refine s_istore (pc := 9) dX12_lists_9 (nlt rfl) rfl (L' := [some (.ref (gh (xG X) + a0)), some (.int x1), some (.int x2), some (.int x3), some (.int q6), none, none, none, none]) rfl ?_
  refine s_iconst (pc := 11) 0 dX12_lists_11 kc_0 ?_
  refine s_istore (pc := 12) dX12_lists_12 (nlt rfl) rfl (L' := [some (.ref (gh (xG X) + a0)), some (.int x1), some (.int x2), some (.int x3), some (.int q6), some (.int 0), none, none, none]) rfl ?_
  refine s_drop (L' := [some (.ref (gh (xG X) + a0)), some (.int x1), some (.int x2), some (.int x3), some (.int q6), some (.int 0), none, none, none]) ?_ (And.intro rfl (And.intro rfl (And.intro rfl (And.intro rfl (And.intro rfl (And.intro rfl trivial))))))
  refine s_loop1 M2 (fun s9 : Mem × Int32 => s9.1) (fun s9 : Mem × Int32 => [some (.ref (gh (xG X) + a0)), some (.int x1), some (.int x2), some (.int x3), some (.int q6), some (.int s9.2), none, none, none]) (fun x16 : Mem => x16) 139 (fun x16 : Mem => [none, none, none, none, none, none, none, none, none]) (fun x16 hx17 => ?_) (fun T11 R13 hT12 hR14 s9 hs10 => ?_) (M2, 0) Le.rf
  · show S0 X _ x16 139 [none, none, none, none, none, none, none, none, none] [] _
    exact s_vret rfl dX12_lists_139
  · show S0 X _ s9.1 14 [some (.ref (gh (xG X) + a0)), some (.int x1), some (.int x2), some (.int x3), some (.int q6), some (.int s9.2), none, none, none] [] _
    have o15 := hs10.ok o5
    refine s_iload (pc := 14) dX12_lists_14 rfl ?_
    refine s_iconst (pc := 16) 5 dX12_lists_16 kc_5 ?_
    refine s_icge (pc := 17) 139 dX12_lists_17 rfl ?_ ?_
    · exact s_drop (hR14 s9.1 hs10) trivial
    · refine s_iconst (pc := 20) 0 dX12_lists_20 kc_0 ?_
      refine s_istore (pc := 21) dX12_lists_21 (nlt rfl) rfl (L' := [some (.ref (gh (xG X) + a0)), some (.int x1), some (.int x2), some (.int x3), some (.int q6), some (.int s9.2), some (.int 0), none, none]) rfl ?_
      refine s_drop (L' := [some (.ref (gh (xG X) + a0)), some (.int x1), some (.int x2), some (.int x3), some (.int q6), some (.int s9.2), some (.int 0), none, none]) ?_ (And.intro rfl (And.intro rfl (And.intro rfl (And.intro rfl (And.intro rfl (And.intro rfl (And.intro rfl trivial)))))))
      refine s_loop1 s9.1 (fun s18 : Mem × Int32 => s18.1) (fun s18 : Mem × Int32 => [some (.ref (gh (xG X) + a0)), some (.int x1), some (.int x2), some (.int x3), some (.int q6), some (.int s9.2), some (.int s18.2), none, none]) (fun x25 : Mem => x25) 133 (fun x25 : Mem => [some (.ref (gh (xG X) + a0)), some (.int x1), some (.int x2), some (.int x3), some (.int q6), some (.int s9.2), none, none, none]) (fun x25 hx26 => ?_) (fun T20 R22 hT21 hR23 s18 hs19 => ?_) (s9.1, 0) Le.rf
      · show S0 X _ x25 133 [some (.ref (gh (xG X) + a0)), some (.int x1), some (.int x2), some (.int x3), some (.int q6), some (.int s9.2), none, none, none] [] _
        have o81 := hx26.ok o15
        refine s_iinc (pc := 133) dX12_lists_133 rfl (v := s9.2 + 1) (congrArg (fun z : Int32 => s9.2 + z) kc_1) (nlt rfl) rfl (L' := [some (.ref (gh (xG X) + a0)), some (.int x1), some (.int x2), some (.int x3), some (.int q6), some (.int (s9.2 + 1)), none, none, none]) rfl ?_
        refine s_bv (fun x82 : Int32 => [some (.ref (gh (xG X) + a0)), some (.int x1), some (.int x2), some (.int x3), some (.int q6), some (.int x82), none, none, none]) (fun x82 => ?_) rfl
        refine s_goto (pc := 136) 14 dX12_lists_136 rfl ?_
        exact s_drop (hT12 (x25, x82) (hs10.tr hx26)) (And.intro rfl (And.intro rfl (And.intro rfl (And.intro rfl (And.intro rfl (And.intro rfl trivial))))))
      · show S0 X _ s18.1 23 [some (.ref (gh (xG X) + a0)), some (.int x1), some (.int x2), some (.int x3), some (.int q6), some (.int s9.2), some (.int s18.2), none, none] [] _
        have o24 := hs19.ok o15
        refine s_iload (pc := 23) dX12_lists_23 rfl ?_
        refine s_iload (pc := 25) dX12_lists_25 rfl ?_
        refine s_icgt (pc := 27) 133 dX12_lists_27 rfl ?_ ?_
        · exact s_drop (hR23 s18.1 hs19) (And.intro rfl (And.intro rfl (And.intro rfl (And.intro rfl (And.intro rfl (And.intro rfl trivial))))))
        · refine s_iconst (pc := 30) 0 dX12_lists_30 kc_0 ?_
          refine s_istore (pc := 31) dX12_lists_31 (nlt rfl) rfl (L' := [some (.ref (gh (xG X) + a0)), some (.int x1), some (.int x2), some (.int x3), some (.int q6), some (.int s9.2), some (.int s18.2), some (.int 0), none]) rfl ?_
          refine s_drop (L' := [some (.ref (gh (xG X) + a0)), some (.int x1), some (.int x2), some (.int x3), some (.int q6), some (.int s9.2), some (.int s18.2), some (.int 0), none]) ?_ (And.intro rfl (And.intro rfl (And.intro rfl (And.intro rfl (And.intro rfl (And.intro rfl (And.intro rfl (And.intro rfl trivial))))))))
          refine s_loop1 s18.1 (fun s27 : Mem × Int32 => s27.1) (fun s27 : Mem × Int32 => [some (.ref (gh (xG X) + a0)), some (.int x1), some (.int x2), some (.int x3), some (.int q6), some (.int s9.2), some (.int s18.2), some (.int s27.2), none]) (fun x34 : Mem => x34) 127 (fun x34 : Mem => [some (.ref (gh (xG X) + a0)), some (.int x1), some (.int x2), some (.int x3), some (.int q6), some (.int s9.2), some (.int s18.2), none, none]) (fun x34 hx35 => ?_) (fun T29 R31 hT30 hR32 s27 hs28 => ?_) (s18.1, 0) Le.rf
          · show S0 X _ x34 127 [some (.ref (gh (xG X) + a0)), some (.int x1), some (.int x2), some (.int x3), some (.int q6), some (.int s9.2), some (.int s18.2), none, none] [] _
            have o79 := hx35.ok o24
            refine s_iinc (pc := 127) dX12_lists_127 rfl (v := s18.2 + 1) (congrArg (fun z : Int32 => s18.2 + z) kc_1) (nlt rfl) rfl (L' := [some (.ref (gh (xG X) + a0)), some (.int x1), some (.int x2), some (.int x3), some (.int q6), some (.int s9.2), some (.int (s18.2 + 1)), none, none]) rfl ?_
            refine s_bv (fun x80 : Int32 => [some (.ref (gh (xG X) + a0)), some (.int x1), some (.int x2), some (.int x3), some (.int q6), some (.int s9.2), some (.int x80), none, none]) (fun x80 => ?_) rfl
            refine s_goto (pc := 130) 23 dX12_lists_130 rfl ?_
            exact s_drop (hT21 (x34, x80) (hs19.tr hx35)) (And.intro rfl (And.intro rfl (And.intro rfl (And.intro rfl (And.intro rfl (And.intro rfl (And.intro rfl trivial)))))))
          · show S0 X _ s27.1 33 [some (.ref (gh (xG X) + a0)), some (.int x1), some (.int x2), some (.int x3), some (.int q6), some (.int s9.2), some (.int s18.2), some (.int s27.2), none] [] _
            have o33 := hs28.ok o24
            refine s_iload (pc := 33) dX12_lists_33 rfl ?_
            refine s_iload (pc := 35) dX12_lists_35 rfl ?_
            refine s_iconst (pc := 37) 1 dX12_lists_37 kc_1 ?_
            refine s_join s27.1 (fun s37 : Int32 => s27.1) 47 (fun s37 : Int32 => [some (.ref (gh (xG X) + a0)), some (.int x1), some (.int x2), some (.int x3), some (.int q6), some (.int s9.2), some (.int s18.2), some (.int s27.2), none]) (fun s37 : Int32 => [.int s37, .int s27.2]) (fun s37 hs38 => ?_) (fun j36 hj39 => ?_)
            · show S0 X _ s27.1 47 [some (.ref (gh (xG X) + a0)), some (.int x1), some (.int x2), some (.int x3), some (.int q6), some (.int s9.2), some (.int s18.2), some (.int s27.2), none] [.int s37, .int s27.2] _
              refine s_icge (pc := 47) 127 dX12_lists_47 rfl ?_ ?_
              · exact s_drop (hR32 s27.1 hs28) (And.intro rfl (And.intro rfl (And.intro rfl (And.intro rfl (And.intro rfl (And.intro rfl (And.intro rfl trivial)))))))
              · refine s_aload_n (pc := 50) 0 dX12_lists_50 rfl rfl ?_
                refine s_iload_n (pc := 51) 1 dX12_lists_51 rfl rfl ?_
                refine s_iload (pc := 52) dX12_lists_52 rfl ?_
                refine s_iload (pc := 54) dX12_lists_54 rfl ?_
                refine s_iload (pc := 56) dX12_lists_56 rfl ?_
                refine s_iload_n (pc := 58) 2 dX12_lists_58 rfl rfl ?_
                refine s_bind (fun q40 hq41 => ?_)
                have hC42 := t_X12_changed (l := xl X) (G := xG X) hq41
                refine s_callV (pc := 59) (As := [.int x1, .int s9.2, .int s18.2, .int s27.2, .int x2]) (st := []) (nlt rfl) (q := (RX12, TX12, 59)) rfl rfl o33 cl_X12_changed wi_X12_changed wl_X12_changed km_X12_177 rfl rfl (nle rfl) (nle rfl) (nle rfl) dX12_lists_59 hC42 ?_
                have h43 := hC42.1 X
                have o44 := h43.ok o33
                show S0 X _ q40.1 62 [some (.ref (gh (xG X) + a0)), some (.int x1), some (.int x2), some (.int x3), some (.int q6), some (.int s9.2), some (.int s18.2), some (.int s27.2), none] [.int q40.2] _
                refine s_istore (pc := 62) dX12_lists_62 (nlt rfl) rfl (L' := [some (.ref (gh (xG X) + a0)), some (.int x1), some (.int x2), some (.int x3), some (.int q6), some (.int s9.2), some (.int s18.2), some (.int s27.2), some (.int q40.2)]) rfl ?_
                refine s_iload (pc := 64) dX12_lists_64 rfl ?_
                refine s_iconst (pc := 66) (-1) dX12_lists_66 kc_m1 ?_
                refine s_join q40.1 (fun s46 : Mem => s46) 121 (fun s46 : Mem => [some (.ref (gh (xG X) + a0)), some (.int x1), some (.int x2), some (.int x3), some (.int q6), some (.int s9.2), some (.int s18.2), some (.int s27.2), none]) (fun s46 : Mem => []) (fun s46 hs47 => ?_) (fun j45 hj48 => ?_)
                · show S0 X _ s46 121 [some (.ref (gh (xG X) + a0)), some (.int x1), some (.int x2), some (.int x3), some (.int q6), some (.int s9.2), some (.int s18.2), some (.int s27.2), none] [] _
                  have o49 := hs47.ok o44
                  refine s_iinc (pc := 121) dX12_lists_121 rfl (v := s27.2 + 1) (congrArg (fun z : Int32 => s27.2 + z) kc_1) (nlt rfl) rfl (L' := [some (.ref (gh (xG X) + a0)), some (.int x1), some (.int x2), some (.int x3), some (.int q6), some (.int s9.2), some (.int s18.2), some (.int (s27.2 + 1)), none]) rfl ?_
                  refine s_bv (fun x50 : Int32 => [some (.ref (gh (xG X) + a0)), some (.int x1), some (.int x2), some (.int x3), some (.int q6), some (.int s9.2), some (.int s18.2), some (.int x50), none]) (fun x50 => ?_) rfl
                  refine s_goto (pc := 124) 33 dX12_lists_124 rfl ?_
                  exact s_drop (hT30 (s46, x50) (hs28.tr (h43.tr hs47))) (And.intro rfl (And.intro rfl (And.intro rfl (And.intro rfl (And.intro rfl (And.intro rfl (And.intro rfl (And.intro rfl trivial))))))))
                · refine s_icne (pc := 67) 73 dX12_lists_67 rfl ?_ ?_
                  · refine s_aload_n (pc := 73) 0 dX12_lists_73 rfl rfl ?_
                    refine s_geto (pc := 74) F_12 9 rfl o44 dX12_lists_74 kf_X12_33 ?_
                    refine s_rvB (fun r51 => ?_)
                    refine s_aload_n (pc := 77) 0 dX12_lists_77 rfl rfl ?_
                    refine s_geti (pc := 78) F_12 11 rfl o44 dX12_lists_78 kf_X12_174 ?_
                    refine s_iload (pc := 81) dX12_lists_81 rfl ?_
                    refine s_grd (fun o52 => ?_)
                    refine s_grd (fun i53 => ?_)
                    refine s_iast (pc := 83) o52 i53 dX12_lists_83 (fun M54 hM55 => ?_)
                    have h56 := le_wI hM55
                    have o57 := h56.ok o44
                    refine s_aload_n (pc := 84) 0 dX12_lists_84 rfl rfl ?_
                    refine s_geto (pc := 85) F_12 10 rfl o57 dX12_lists_85 kf_X12_36 ?_
                    refine s_rvB (fun r58 => ?_)
                    refine s_aload_n (pc := 88) 0 dX12_lists_88 rfl rfl ?_
                    refine s_geti (pc := 89) F_12 11 rfl o57 dX12_lists_89 kf_X12_174 ?_
                    refine s_iload_n (pc := 92) 3 dX12_lists_92 rfl rfl ?_
                    refine s_join M54 (fun s60 : Mem × Int32 => s60.1) 110 (fun s60 : Mem × Int32 => [some (.ref (gh (xG X) + a0)), some (.int x1), some (.int x2), some (.int x3), some (.int q6), some (.int s9.2), some (.int s18.2), some (.int s27.2), none]) (fun s60 : Mem × Int32 => [.int s60.2, .int (mI M54 a0 11), .ref (gh (xG X) + r58)]) (fun s60 hs61 => ?_) (fun j59 hj62 => ?_)
                    · show S0 X _ s60.1 110 [some (.ref (gh (xG X) + a0)), some (.int x1), some (.int x2), some (.int x3), some (.int q6), some (.int s9.2), some (.int s18.2), some (.int s27.2), none] [.int s60.2, .int (mI M54 a0 11), .ref (gh (xG X) + r58)] _
                      have o63 := hs61.ok o57
                      refine s_grd (fun o64 => ?_)
                      refine s_grd (fun i65 => ?_)
                      refine s_iast (pc := 110) o64 i65 dX12_lists_110 (fun M66 hM67 => ?_)
                      have h68 := le_wI hM67
                      have o69 := h68.ok o63
                      refine s_aload_n (pc := 111) 0 dX12_lists_111 rfl rfl ?_
                      refine s_dup (pc := 112) dX12_lists_112 rfl ?_
                      refine s_geti (pc := 113) F_12 11 rfl o69 dX12_lists_113 kf_X12_174 ?_
                      refine s_iconst (pc := 116) 1 dX12_lists_116 kc_1 ?_
                      refine s_iadd (pc := 117) dX12_lists_117 ?_
                      refine s_puti (pc := 118) F_12 11 rfl o69 rfl rfl rfl dX12_lists_118 kf_X12_174 (fun M70 hM71 => ?_)
                      have h72 := le_wI hM71
                      have o73 := h72.ok o69
                      exact s_drop (hj48 M70 (h56.tr (hs61.tr (h68.tr h72)))) (And.intro rfl (And.intro rfl (And.intro rfl (And.intro rfl (And.intro rfl (And.intro rfl (And.intro rfl (And.intro rfl trivial))))))))
                    · refine s_ifeq (pc := 93) 109 dX12_lists_93 rfl ?_ ?_
                      · refine s_iconst (pc := 109) 0 dX12_lists_109 kc_0 ?_
                        exact s_drop (hj62 (M54, 0) Le.rf) (And.intro rfl (And.intro rfl (And.intro rfl (And.intro rfl (And.intro rfl (And.intro rfl (And.intro rfl (And.intro rfl trivial))))))))
                      · refine s_aload_n (pc := 96) 0 dX12_lists_96 rfl rfl ?_
                        refine s_iload_n (pc := 97) 1 dX12_lists_97 rfl rfl ?_
                        refine s_iload (pc := 98) dX12_lists_98 rfl ?_
                        refine s_iload (pc := 100) dX12_lists_100 rfl ?_
                        refine s_iload_n (pc := 102) 2 dX12_lists_102 rfl rfl ?_
                        refine s_bind (fun q74 hq75 => ?_)
                        have hC76 := t_X12_weighs (l := xl X) (G := xG X) hq75
                        refine s_callV (pc := 103) (As := [.int x1, .int s9.2, .int s18.2, .int x2]) (st := [.int (mI M54 a0 11), .ref (gh (xG X) + r58)]) (nlt rfl) (q := (RX12, TX12, 59)) rfl rfl o57 cl_X12_weighs wi_X12_weighs wl_X12_weighs km_X12_181 rfl rfl (nle rfl) (nle rfl) (nle rfl) dX12_lists_103 hC76 ?_
                        have h77 := hC76.1 X
                        have o78 := h77.ok o57
                        show S0 X _ q74.1 106 [some (.ref (gh (xG X) + a0)), some (.int x1), some (.int x2), some (.int x3), some (.int q6), some (.int s9.2), some (.int s18.2), some (.int s27.2), some (.int q40.2)] [.int q74.2, .int (mI M54 a0 11), .ref (gh (xG X) + r58)] _
                        refine s_goto (pc := 106) 110 dX12_lists_106 rfl ?_
                        exact s_drop (hj62 (q74.1, q74.2) h77) (And.intro rfl (And.intro rfl (And.intro rfl (And.intro rfl (And.intro rfl (And.intro rfl (And.intro rfl (And.intro rfl trivial))))))))
                  · refine s_goto (pc := 70) 121 dX12_lists_70 rfl ?_
                    exact s_drop (hj48 q40.1 Le.rf) (And.intro rfl (And.intro rfl (And.intro rfl (And.intro rfl (And.intro rfl (And.intro rfl (And.intro rfl (And.intro rfl trivial))))))))
            · refine s_icne (pc := 38) 46 dX12_lists_38 rfl ?_ ?_
              · refine s_iconst (pc := 46) 1 dX12_lists_46 kc_1 ?_
                exact s_drop (hj39 1 Le.rf) (And.intro rfl (And.intro rfl (And.intro rfl (And.intro rfl (And.intro rfl (And.intro rfl (And.intro rfl (And.intro rfl trivial))))))))
              · refine s_bipush (pc := 41) 6 dX12_lists_41 kb_6 ?_
                refine s_goto (pc := 43) 47 dX12_lists_43 rfl ?_
                exact s_drop (hj39 6 Le.rf) (And.intro rfl (And.intro rfl (And.intro rfl (And.intro rfl (And.intro rfl (And.intro rfl (And.intro rfl (And.intro rfl trivial))))))))
noncomputable def f_X12_readOne (M : Mem) (a0 : Nat) : Option Mem :=
  grd (okO M 12 a0) (if (mI M a0 14) = 0 then (Option.bind (f_X12_readClause M a0) (fun q2 => some q2)) else (Option.bind (f_X12_readOrder M a0) (fun q7 => some q7)))
abbrev Y_X12_readOne : Sta := (RX12, "readOne", cX12_readOne, 1, none, 107)
set_option maxRecDepth 100000 in
set_option maxHeartbeats 8000000 in
theorem t_X12_readOne {l : Launch} {G : Gh} {M : Mem} {a0 : Nat} {q : Mem} (h : f_X12_readOne M a0 = some q) : Ctr l G yX12_readOne Y_X12_readOne M [.ref (gh G + a0)] q (none) := by
  refine Ctr.of (Y := Y_X12_readOne) (L := [some (.ref (gh G + a0))]) (t := Option.bind (f_X12_readOne M a0) (fun q => some (q, (none : Option Value)))) (by decide) rfl rfl (nle rfl) (Lof_in 0 _ rfl) (fun X hG hl => ?_) (by rw [h]; rfl)
  subst hG
  subst hl
  unfold f_X12_readOne
  refine s_aload_n (pc := 0) 0 dX12_readOne_0 rfl rfl ?_
  refine s_grd (fun o1 => ?_)
  refine s_geti (pc := 1) F_12 14 rfl o1 dX12_readOne_1 kf_X12_249 ?_
  refine s_ifeq (pc := 4) 14 dX12_readOne_4 rfl ?_ ?_
  · refine s_aload_n (pc := 14) 0 dX12_readOne_14 rfl rfl ?_
    refine s_bind (fun q2 hq3 => ?_)
    have hC4 := t_X12_readClause (l := xl X) (G := xG X) hq3
    refine s_callV (pc := 15) (As := []) (st := []) (nlt rfl) (q := (RX12, TX12, 59)) rfl rfl o1 cl_X12_readClause wi_X12_readClause wl_X12_readClause km_X12_269 rfl rfl (nle rfl) (nle rfl) (nle rfl) dX12_readOne_15 hC4 ?_
    have h5 := hC4.1 X
    have o6 := h5.ok o1
    show S0 X _ q2 18 [some (.ref (gh (xG X) + a0))] [] _
    exact s_vret rfl dX12_readOne_18
  · refine s_aload_n (pc := 7) 0 dX12_readOne_7 rfl rfl ?_
    refine s_bind (fun q7 hq8 => ?_)
    have hC9 := t_X12_readOrder (l := xl X) (G := xG X) hq8
    refine s_callV (pc := 8) (As := []) (st := []) (nlt rfl) (q := (RX12, TX12, 59)) rfl rfl o1 cl_X12_readOrder wi_X12_readOrder wl_X12_readOrder km_X12_266 rfl rfl (nle rfl) (nle rfl) (nle rfl) dX12_readOne_8 hC9 ?_
    have h10 := hC9.1 X
    have o11 := h10.ok o1
    show S0 X _ q7 11 [some (.ref (gh (xG X) + a0))] [] _
    refine s_goto (pc := 11) 18 dX12_readOne_11 rfl ?_
    exact s_vret rfl dX12_readOne_18
noncomputable def f_X12_born (M : Mem) (a0 : Nat) (x1 : Int32) (x2 : Int32) (x3 : Int32) (x4 : Int32) : Option (Mem × Int32) :=
  grd (okO M 12 a0) (Option.bind (f_X12_bears M a0 x1 x2 x3 x4) (fun q2 => if 0 ≤ q2.2 then (Option.bind (f_X12_good q2.1 a0 q2.2) (fun q7 => some (q7.1, q7.2))) else (Option.bind (f_X12_refuses q2.1 a0 q2.2) (fun q12 => some (q12.1, q12.2)))))
abbrev Y_X12_born : Sta := (RX12, "born", cX12_born, 6, (some .int), 108)
set_option maxRecDepth 100000 in
set_option maxHeartbeats 8000000 in
theorem t_X12_born {l : Launch} {G : Gh} {M : Mem} {a0 : Nat} {x1 : Int32} {x2 : Int32} {x3 : Int32} {x4 : Int32} {q : Mem × Int32} (h : f_X12_born M a0 x1 x2 x3 x4 = some q) : Ctr l G yX12_born Y_X12_born M [.ref (gh G + a0), .int x1, .int x2, .int x3, .int x4] q.1 (some (.int q.2)) := by
  refine Ctr.of (Y := Y_X12_born) (L := [some (.ref (gh G + a0)), some (.int x1), some (.int x2), some (.int x3), some (.int x4), none]) (t := Option.bind (f_X12_born M a0 x1 x2 x3 x4) (fun q => some (q.1, some (.int q.2)))) (by decide) rfl rfl (nle rfl) (Lof_in 1 _ rfl) (fun X hG hl => ?_) (by rw [h]; rfl)
  subst hG
  subst hl
  unfold f_X12_born
  refine s_aload_n (pc := 0) 0 dX12_born_0 rfl rfl ?_
  refine s_iload_n (pc := 1) 1 dX12_born_1 rfl rfl ?_
  refine s_iload_n (pc := 2) 2 dX12_born_2 rfl rfl ?_
  refine s_iload_n (pc := 3) 3 dX12_born_3 rfl rfl ?_
  refine s_iload (pc := 4) dX12_born_4 rfl ?_
  refine s_grd (fun o1 => ?_)
  refine s_bind (fun q2 hq3 => ?_)
  have hC4 := t_X12_bears (l := xl X) (G := xG X) hq3
  refine s_callV (pc := 6) (As := [.int x1, .int x2, .int x3, .int x4]) (st := []) (nlt rfl) (q := (RX12, TX12, 59)) rfl rfl o1 cl_X12_bears wi_X12_bears wl_X12_bears km_X12_208 rfl rfl (nle rfl) (nle rfl) (nle rfl) dX12_born_6 hC4 ?_
  have h5 := hC4.1 X
  have o6 := h5.ok o1
  show S0 X _ q2.1 9 [some (.ref (gh (xG X) + a0)), some (.int x1), some (.int x2), some (.int x3), some (.int x4), none] [.int q2.2] _
  refine s_istore (pc := 9) dX12_born_9 (nlt rfl) rfl (L' := [some (.ref (gh (xG X) + a0)), some (.int x1), some (.int x2), some (.int x3), some (.int x4), some (.int q2.2)]) rfl ?_
  refine s_iload (pc := 11) dX12_born_11 rfl ?_
  refine s_ifge (pc := 13) 25 dX12_born_13 rfl ?_ ?_
  · refine s_aload_n (pc := 25) 0 dX12_born_25 rfl rfl ?_
    refine s_iload (pc := 26) dX12_born_26 rfl ?_
    refine s_bind (fun q7 hq8 => ?_)
    have hC9 := t_X12_good (l := xl X) (G := xG X) hq8
    refine s_callV (pc := 28) (As := [.int q2.2]) (st := []) (nlt rfl) (q := (RX12, TX12, 59)) rfl rfl o6 cl_X12_good wi_X12_good wl_X12_good km_X12_131 rfl rfl (nle rfl) (nle rfl) (nle rfl) dX12_born_28 hC9 ?_
    have h10 := hC9.1 X
    have o11 := h10.ok o6
    show S0 X _ q7.1 31 [some (.ref (gh (xG X) + a0)), some (.int x1), some (.int x2), some (.int x3), some (.int x4), some (.int q2.2)] [.int q7.2] _
    exact s_iret rfl dX12_born_31
  · refine s_aload_n (pc := 16) 0 dX12_born_16 rfl rfl ?_
    refine s_iload (pc := 17) dX12_born_17 rfl ?_
    refine s_bind (fun q12 hq13 => ?_)
    have hC14 := t_X12_refuses (l := xl X) (G := xG X) hq13
    refine s_callV (pc := 19) (As := [.int q2.2]) (st := []) (nlt rfl) (q := (RX12, TX12, 59)) rfl rfl o6 cl_X12_refuses wi_X12_refuses wl_X12_refuses km_X12_127 rfl rfl (nle rfl) (nle rfl) (nle rfl) dX12_born_19 hC14 ?_
    have h15 := hC14.1 X
    have o16 := h15.ok o6
    show S0 X _ q12.1 22 [some (.ref (gh (xG X) + a0)), some (.int x1), some (.int x2), some (.int x3), some (.int x4), some (.int q2.2)] [.int q12.2] _
    refine s_goto (pc := 22) 31 dX12_born_22 rfl ?_
    exact s_iret rfl dX12_born_31
