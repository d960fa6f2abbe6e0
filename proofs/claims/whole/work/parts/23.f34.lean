set_option maxRecDepth 100000 in
set_option maxHeartbeats 8000000 in
noncomputable def f_X7_read (M : Mem) (a0 : Nat) (p1 : Int32) : Option (Mem × Int32) :=
  grd (okO M 7 a0) (grd (pb p1) (bv (wI M a0 6 p1) (fun M2 => bv (wI M2 a0 5 (-1)) (fun M7 => bv (wI M7 a0 9 0) (fun M11 => Option.bind (mR M11 a0 3) (fun r15 => grd (okO M11 9 r15) (Option.bind (f_X9_clear M11 r15) (fun q17 => Option.bind (f_X7_cutTokens q17 a0) (fun q22 => bv (wI q22 a0 7 0) (fun M27 => Option.bind (mR M27 a0 1) (fun r31 => grd (okO M27 14 r31) (grd (vp_in 0 (mL M27 r31)) (bv (wI M27 a0 8 (mI M27 r31 (0 : Int32).toNatClampNeg)) (fun M34 => Option.bind (loopO (σ := Mem × Int32) (ρ := Mem ⊕ (Mem ⊕ (Mem ⊕ Mem))) (fun s38 => if 12 ≤ s38.2 then (some (.inr (.inl s38.1))) else (bv (fun (s60 : Mem) => if (mI s60 a0 8) = 256 then (some (.inr (.inr (.inr (.inl s60))))) else (if (mI s60 a0 8) = 59 then (Option.bind (f_X7_next s60 a0) (fun q64 => bv (s38.2 + 1 : Int32) (fun x69 => some (.inl (q64, x69))))) else (some (.inr (.inr (.inr (.inr s60))))))) (fun j59 => if (mI s38.1 a0 6) = 0 then (Option.bind (f_X7_lawClause s38.1 a0) (fun q70 => if q70.2 = 0 then (some (.inr (.inr (.inl q70.1)))) else (j59 q70.1))) else (Option.bind (f_X7_orderClause s38.1 a0) (fun q75 => if q75.2 = 0 then (some (.inr (.inr (.inl q75.1)))) else (j59 q75.1)))))) (M34, 0)) (Sum.elim (fun (x51 : Mem) => Option.bind (f_X7_fail x51 a0) (fun q81 => grd (bl q81.2) (some (q81.1, q81.2)))) (Sum.elim (fun (x53 : Mem) => some (x53, 0)) (Sum.elim (fun (x55 : Mem) => some (x55, 1)) (fun (x57 : Mem) => Option.bind (f_X7_fail x57 a0) (fun q88 => grd (bl q88.2) (some (q88.1, q88.2)))))))))))))))))))))
abbrev Y_X7_read : Sta := (RX7, "read", cX7_read, 3, (some .boolean), 208)
set_option maxRecDepth 100000 in
set_option maxHeartbeats 8000000 in
theorem t_X7_read {l : Launch} {G : Gh} {M : Mem} {a0 : Nat} {p1 : Int32} {q : Mem × Int32} (h : f_X7_read M a0 p1 = some q) : Ctr l G yX7_read Y_X7_read M [.ref (gh G + a0), .int p1] q.1 (some (.int q.2)) := by
  refine Ctr.of (Y := Y_X7_read) (L := [some (.ref (gh G + a0)), some (.int p1), none]) (t := Option.bind (f_X7_read M a0 p1) (fun q => some (q.1, some (.int q.2)))) (by decide) rfl rfl (nle rfl) (Lof_in 1 _ rfl) (fun X hG hl => ?_) (by rw [h]; rfl)
  subst hG
  subst hl
  unfold f_X7_read
  refine s_aload_n (pc := 0) 0 dX7_read_0 rfl rfl ?_
  refine s_iload_n (pc := 1) 1 dX7_read_1 rfl rfl ?_
  refine s_grd (fun o1 => ?_)
  refine s_grd (fun g5 => ?_)
  refine s_puti (pc := 2) F_7 6 rfl o1 rfl g5.1 g5.2 dX7_read_2 kf_X7_50 (fun M2 hM3 => ?_)
  have h4 := le_wI hM3
  have o6 := h4.ok o1
  refine s_aload_n (pc := 5) 0 dX7_read_5 rfl rfl ?_
  refine s_iconst (pc := 6) (-1) dX7_read_6 kc_m1 ?_
  refine s_puti (pc := 7) F_7 5 rfl o6 rfl rfl rfl dX7_read_7 kf_X7_30 (fun M7 hM8 => ?_)
  have h9 := le_wI hM8
  have o10 := h9.ok o6
  refine s_aload_n (pc := 10) 0 dX7_read_10 rfl rfl ?_
  refine s_iconst (pc := 11) 0 dX7_read_11 kc_0 ?_
  refine s_puti (pc := 12) F_7 9 rfl o10 rfl rfl rfl dX7_read_12 kf_X7_54 (fun M11 hM12 => ?_)
  have h13 := le_wI hM12
  have o14 := h13.ok o10
  refine s_aload_n (pc := 15) 0 dX7_read_15 rfl rfl ?_
  refine s_geto (pc := 16) F_7 3 rfl o14 dX7_read_16 kf_X7_26 ?_
  refine s_rvB (fun r15 => ?_)
  refine s_grd (fun o16 => ?_)
  refine s_bind (fun q17 hq18 => ?_)
  have hC19 := t_X9_clear (l := xl X) (G := xG X) hq18
  refine s_callV (pc := 19) (As := []) (st := []) (nlt rfl) (q := (RX9, TX9, 5)) rfl rfl o16 cl_X9_clear wi_X9_clear wl_X9_clear km_X7_57 rfl rfl (nle rfl) (nle rfl) (nle rfl) dX7_read_19 hC19 ?_
  have h20 := hC19.1 X
  have o21 := h20.ok o14
  show S0 X _ q17 22 [some (.ref (gh (xG X) + a0)), some (.int p1), none] [] _
  refine s_aload_n (pc := 22) 0 dX7_read_22 rfl rfl ?_
  refine s_bind (fun q22 hq23 => ?_)
  have hC24 := t_X7_cutTokens (l := xl X) (G := xG X) hq23
  refine s_callV (pc := 23) (As := []) (st := []) (nlt rfl) (q := (RX7, TX7, 10)) rfl rfl o21 cl_X7_cutTokens wi_X7_cutTokens wl_X7_cutTokens km_X7_60 rfl rfl (nle rfl) (nle rfl) (nle rfl) dX7_read_23 hC24 ?_
  have h25 := hC24.1 X
  have o26 := h25.ok o21
  show S0 X _ q22 26 [some (.ref (gh (xG X) + a0)), some (.int p1), none] [] _
  refine s_aload_n (pc := 26) 0 dX7_read_26 rfl rfl ?_
  refine s_iconst (pc := 27) 0 dX7_read_27 kc_0 ?_
  refine s_puti (pc := 28) F_7 7 rfl o26 rfl rfl rfl dX7_read_28 kf_X7_63 (fun M27 hM28 => ?_)
  have h29 := le_wI hM28
  have o30 := h29.ok o26
  refine s_aload_n (pc := 31) 0 dX7_read_31 rfl rfl ?_
  refine s_aload_n (pc := 32) 0 dX7_read_32 rfl rfl ?_
  refine s_geto (pc := 33) F_7 1 rfl o30 dX7_read_33 kf_X7_15 ?_
  refine s_rvB (fun r31 => ?_)
  refine s_iconst (pc := 36) 0 dX7_read_36 kc_0 ?_
  refine s_grd (fun o32 => ?_)
  refine s_grd (fun i33 => ?_)
  refine s_iald (pc := 37) o32 i33 dX7_read_37 ?_
  refine s_puti (pc := 38) F_7 8 rfl o30 rfl rfl rfl dX7_read_38 kf_X7_66 (fun M34 hM35 => ?_)
  have h36 := le_wI hM35
  have o37 := h36.ok o30
  refine s_iconst (pc := 41) 0 dX7_read_41 kc_0 ?_
  refine s_istore_n (pc := 42) 2 dX7_read_42 rfl (nlt rfl) rfl (L' := [some (.ref (gh (xG X) + a0)), some (.int p1), some (.int 0)]) rfl ?_
  refine s_drop (L' := [some (.ref (gh (xG X) + a0)), none, some (.int 0)]) ?_ (And.intro rfl (And.intro rfl trivial))
  refine s_loop4 M34 (fun s38 : Mem × Int32 => s38.1) (fun s38 : Mem × Int32 => [some (.ref (gh (xG X) + a0)), none, some (.int s38.2)]) (fun x51 : Mem => x51) 111 (fun x51 : Mem => [some (.ref (gh (xG X) + a0)), none, none]) (fun x53 : Mem => x53) 73 (fun x53 : Mem => [none, none, none]) (fun x55 : Mem => x55) 85 (fun x55 : Mem => [none, none, none]) (fun x57 : Mem => x57) 96 (fun x57 : Mem => [some (.ref (gh (xG X) + a0)), none, none]) (fun x51 hx52 => ?_) (fun x53 hx54 => ?_) (fun x55 hx56 => ?_) (fun x57 hx58 => ?_) (fun T40 R42 R44 R46 R48 hT41 hR43 hR45 hR47 hR49 s38 hs39 => ?_) (M34, 0) Le.rf
  · show S0 X _ x51 111 [some (.ref (gh (xG X) + a0)), none, none] [] _
    have o80 := hx52.ok o37
    refine s_aload_n (pc := 111) 0 dX7_read_111 rfl rfl ?_
    refine s_bind (fun q81 hq82 => ?_)
    have hC83 := t_X7_fail (l := xl X) (G := xG X) hq82
    refine s_callV (pc := 112) (As := []) (st := []) (nlt rfl) (q := (RX7, TX7, 10)) rfl rfl o80 cl_X7_fail wi_X7_fail wl_X7_fail km_X7_76 rfl rfl (nle rfl) (nle rfl) (nle rfl) dX7_read_112 hC83 ?_
    have h84 := hC83.1 X
    have o85 := h84.ok o80
    show S0 X _ q81.1 115 [some (.ref (gh (xG X) + a0)), none, none] [.int q81.2] _
    refine s_grd (fun g86 => ?_)
    exact s_zret rfl g86 dX7_read_115
  · show S0 X _ x53 73 [none, none, none] [] _
    refine s_iconst (pc := 73) 0 dX7_read_73 kc_0 ?_
    exact s_zret rfl rfl dX7_read_74
  · show S0 X _ x55 85 [none, none, none] [] _
    refine s_iconst (pc := 85) 1 dX7_read_85 kc_1 ?_
    exact s_zret rfl rfl dX7_read_86
  · show S0 X _ x57 96 [some (.ref (gh (xG X) + a0)), none, none] [] _
    have o87 := hx58.ok o37
    refine s_aload_n (pc := 96) 0 dX7_read_96 rfl rfl ?_
    refine s_bind (fun q88 hq89 => ?_)
    have hC90 := t_X7_fail (l := xl X) (G := xG X) hq89
    refine s_callV (pc := 97) (As := []) (st := []) (nlt rfl) (q := (RX7, TX7, 10)) rfl rfl o87 cl_X7_fail wi_X7_fail wl_X7_fail km_X7_76 rfl rfl (nle rfl) (nle rfl) (nle rfl) dX7_read_97 hC90 ?_
    have h91 := hC90.1 X
    have o92 := h91.ok o87
    show S0 X _ q88.1 100 [some (.ref (gh (xG X) + a0)), none, none] [.int q88.2] _
    refine s_grd (fun g93 => ?_)
    exact s_zret rfl g93 dX7_read_100
  · show S0 X _ s38.1 43 [some (.ref (gh (xG X) + a0)), none, some (.int s38.2)] [] _
    have o50 := hs39.ok o37
    refine s_iload_n (pc := 43) 2 dX7_read_43 rfl rfl ?_
    refine s_bipush (pc := 44) 12 dX7_read_44 kb_12 ?_
    refine s_icge (pc := 46) 111 dX7_read_46 rfl ?_ ?_
    · exact s_drop (hR43 s38.1 hs39) (And.intro rfl trivial)
    · refine s_aload_n (pc := 49) 0 dX7_read_49 rfl rfl ?_
      refine s_geti (pc := 50) F_7 6 rfl o50 dX7_read_50 kf_X7_50 ?_
      refine s_join s38.1 (fun s60 : Mem => s60) 75 (fun s60 : Mem => [some (.ref (gh (xG X) + a0)), none, some (.int s38.2)]) (fun s60 : Mem => []) (fun s60 hs61 => ?_) (fun j59 hj62 => ?_)
      · show S0 X _ s60 75 [some (.ref (gh (xG X) + a0)), none, some (.int s38.2)] [] _
        have o63 := hs61.ok o50
        refine s_aload_n (pc := 75) 0 dX7_read_75 rfl rfl ?_
        refine s_geti (pc := 76) F_7 8 rfl o63 dX7_read_76 kf_X7_66 ?_
        refine s_sipush (pc := 79) 256 dX7_read_79 ks_256 ?_
        refine s_icne (pc := 82) 87 dX7_read_82 rfl ?_ ?_
        · refine s_aload_n (pc := 87) 0 dX7_read_87 rfl rfl ?_
          refine s_geti (pc := 88) F_7 8 rfl o63 dX7_read_88 kf_X7_66 ?_
          refine s_bipush (pc := 91) 59 dX7_read_91 kb_59 ?_
          refine s_iceq (pc := 93) 101 dX7_read_93 rfl ?_ ?_
          · refine s_aload_n (pc := 101) 0 dX7_read_101 rfl rfl ?_
            refine s_bind (fun q64 hq65 => ?_)
            have hC66 := t_X7_next (l := xl X) (G := xG X) hq65
            refine s_callV (pc := 102) (As := []) (st := []) (nlt rfl) (q := (RX7, TX7, 10)) rfl rfl o63 cl_X7_next wi_X7_next wl_X7_next km_X7_79 rfl rfl (nle rfl) (nle rfl) (nle rfl) dX7_read_102 hC66 ?_
            have h67 := hC66.1 X
            have o68 := h67.ok o63
            show S0 X _ q64 105 [some (.ref (gh (xG X) + a0)), none, some (.int s38.2)] [] _
            refine s_iinc (pc := 105) dX7_read_105 rfl (v := s38.2 + 1) (congrArg (fun z : Int32 => s38.2 + z) kc_1) (nlt rfl) rfl (L' := [some (.ref (gh (xG X) + a0)), none, some (.int (s38.2 + 1))]) rfl ?_
            refine s_bv (fun x69 : Int32 => [some (.ref (gh (xG X) + a0)), none, some (.int x69)]) (fun x69 => ?_) rfl
            refine s_goto (pc := 108) 43 dX7_read_108 rfl ?_
            exact s_drop (hT41 (q64, x69) (hs39.tr (hs61.tr h67))) (And.intro rfl (And.intro rfl trivial))
          · exact s_drop (hR49 s60 (hs39.tr hs61)) (And.intro rfl trivial)
        · exact s_drop (hR47 s60 (hs39.tr hs61)) trivial
      · refine s_ifeq (pc := 53) 66 dX7_read_53 rfl ?_ ?_
        · refine s_aload_n (pc := 66) 0 dX7_read_66 rfl rfl ?_
          refine s_bind (fun q70 hq71 => ?_)
          have hC72 := t_X7_lawClause (l := xl X) (G := xG X) hq71
          refine s_callV (pc := 67) (As := []) (st := []) (nlt rfl) (q := (RX7, TX7, 10)) rfl rfl o50 cl_X7_lawClause wi_X7_lawClause wl_X7_lawClause km_X7_73 rfl rfl (nle rfl) (nle rfl) (nle rfl) dX7_read_67 hC72 ?_
          have h73 := hC72.1 X
          have o74 := h73.ok o50
          show S0 X _ q70.1 70 [some (.ref (gh (xG X) + a0)), none, some (.int s38.2)] [.int q70.2] _
          refine s_ifne (pc := 70) 75 dX7_read_70 rfl ?_ ?_
          · exact s_drop (hj62 q70.1 h73) (And.intro rfl (And.intro rfl trivial))
          · exact s_drop (hR45 q70.1 (hs39.tr h73)) trivial
        · refine s_aload_n (pc := 56) 0 dX7_read_56 rfl rfl ?_
          refine s_bind (fun q75 hq76 => ?_)
          have hC77 := t_X7_orderClause (l := xl X) (G := xG X) hq76
          refine s_callV (pc := 57) (As := []) (st := []) (nlt rfl) (q := (RX7, TX7, 10)) rfl rfl o50 cl_X7_orderClause wi_X7_orderClause wl_X7_orderClause km_X7_69 rfl rfl (nle rfl) (nle rfl) (nle rfl) dX7_read_57 hC77 ?_
          have h78 := hC77.1 X
          have o79 := h78.ok o50
          show S0 X _ q75.1 60 [some (.ref (gh (xG X) + a0)), none, some (.int s38.2)] [.int q75.2] _
          refine s_ifeq (pc := 60) 73 dX7_read_60 rfl ?_ ?_
          · exact s_drop (hR45 q75.1 (hs39.tr h78)) trivial
          · refine s_goto (pc := 63) 75 dX7_read_63 rfl ?_
            exact s_drop (hj62 q75.1 h78) (And.intro rfl (And.intro rfl trivial))
set_option maxRecDepth 100000 in
set_option maxHeartbeats 8000000 in
noncomputable def f_X11_law (M : Mem) (a0 : Nat) : Option (Mem × Int32) :=
  grd (okO M 11 a0) (Option.bind (mR M a0 0) (fun r2 => grd (okO M 10 r2) (if (mI M r2 9) < 6 then (Option.bind (mR M a0 2) (fun r4 => grd (okO M 7 r4) (Option.bind (f_X7_read M r4 0) (fun q6 => Option.bind (mR q6.1 a0 2) (fun r11 => grd (okO q6.1 7 r11) (bv (wI q6.1 r11 4 0) (fun M13 => Option.bind (mR M13 a0 2) (fun r17 => grd (okO M13 7 r17) (bv (wI M13 a0 14 (mI M13 r17 5)) (fun M19 => if q6.2 = 0 then (Option.bind (f_X11_refuse M19 a0 (-6)) (fun q44 => some (q44.1, q44.2))) else (Option.bind (mR M19 a0 0) (fun r23 => Option.bind (mR M19 a0 2) (fun r24 => grd (okO M19 7 r24) (Option.bind (mR M19 r24 3) (fun r26 => grd (okO M19 9 r26) (Option.bind (f_X9_kept M19 r26) (fun q28 => grd (okO q28.1 10 r23) (Option.bind (f_X10_addLaw q28.1 r23 q28.2) (fun q34 => Option.bind (f_X11_accept q34.1 a0 q34.2) (fun q39 => some (q39.1, q39.2))))))))))))))))))))) else (Option.bind (mR M a0 2) (fun r49 => grd (okO M 7 r49) (bv (wI M r49 4 0) (fun M51 => Option.bind (f_X11_refuse M51 a0 (-5)) (fun q55 => some (q55.1, q55.2)))))))))
abbrev Y_X11_law : Sta := (RX11, "law", cX11_law, 2, (some .int), 209)
set_option maxRecDepth 100000 in
set_option maxHeartbeats 8000000 in
theorem t_X11_law {l : Launch} {G : Gh} {M : Mem} {a0 : Nat} {q : Mem × Int32} (h : f_X11_law M a0 = some q) : Ctr l G yX11_law Y_X11_law M [.ref (gh G + a0)] q.1 (some (.int q.2)) := by
  refine Ctr.of (Y := Y_X11_law) (L := [some (.ref (gh G + a0)), none]) (t := Option.bind (f_X11_law M a0) (fun q => some (q.1, some (.int q.2)))) (by decide) rfl rfl (nle rfl) (Lof_in 1 _ rfl) (fun X hG hl => ?_) (by rw [h]; rfl)
  subst hG
  subst hl
  unfold f_X11_law
  refine s_aload_n (pc := 0) 0 dX11_law_0 rfl rfl ?_
  refine s_grd (fun o1 => ?_)
  refine s_geto (pc := 1) F_11 0 rfl o1 dX11_law_1 kf_X11_10 ?_
  refine s_rvB (fun r2 => ?_)
  refine s_grd (fun o3 => ?_)
  refine s_getiN (pc := 4) F_10 9 rfl o3 dX11_law_4 (List.mem_of_getElem? (i := 10) rfl) ?_
  refine s_bipush (pc := 7) 6 dX11_law_7 kb_6 ?_
  refine s_iclt (pc := 9) 27 dX11_law_9 rfl ?_ ?_
  · refine s_aload_n (pc := 27) 0 dX11_law_27 rfl rfl ?_
    refine s_geto (pc := 28) F_11 2 rfl o1 dX11_law_28 kf_X11_23 ?_
    refine s_rvB (fun r4 => ?_)
    refine s_iconst (pc := 31) 0 dX11_law_31 kc_0 ?_
    refine s_grd (fun o5 => ?_)
    refine s_bind (fun q6 hq7 => ?_)
    have hC8 := t_X7_read (l := xl X) (G := xG X) hq7
    refine s_callV (pc := 32) (As := [.int 0]) (st := []) (nlt rfl) (q := (RX7, TX7, 10)) rfl rfl o5 cl_X7_read wi_X7_read wl_X7_read km_X11_192 rfl rfl (nle rfl) (nle rfl) (nle rfl) dX11_law_32 hC8 ?_
    have h9 := hC8.1 X
    have o10 := h9.ok o1
    show S0 X _ q6.1 35 [some (.ref (gh (xG X) + a0)), none] [.int q6.2] _
    refine s_istore_n (pc := 35) 1 dX11_law_35 rfl (nlt rfl) rfl (L' := [some (.ref (gh (xG X) + a0)), some (.int q6.2)]) rfl ?_
    refine s_aload_n (pc := 36) 0 dX11_law_36 rfl rfl ?_
    refine s_geto (pc := 37) F_11 2 rfl o10 dX11_law_37 kf_X11_23 ?_
    refine s_rvB (fun r11 => ?_)
    refine s_iconst (pc := 40) 0 dX11_law_40 kc_0 ?_
    refine s_grd (fun o12 => ?_)
    refine s_puti (pc := 41) F_7 4 rfl o12 rfl rfl rfl dX11_law_41 kf_X11_176 (fun M13 hM14 => ?_)
    have h15 := le_wI hM14
    have o16 := h15.ok o10
    refine s_aload_n (pc := 44) 0 dX11_law_44 rfl rfl ?_
    refine s_aload_n (pc := 45) 0 dX11_law_45 rfl rfl ?_
    refine s_geto (pc := 46) F_11 2 rfl o16 dX11_law_46 kf_X11_23 ?_
    refine s_rvB (fun r17 => ?_)
    refine s_grd (fun o18 => ?_)
    refine s_geti (pc := 49) F_7 5 rfl o18 dX11_law_49 kf_X11_196 ?_
    refine s_puti (pc := 52) F_11 14 rfl o16 rfl rfl rfl dX11_law_52 kf_X11_82 (fun M19 hM20 => ?_)
    have h21 := le_wI hM20
    have o22 := h21.ok o16
    refine s_iload_n (pc := 55) 1 dX11_law_55 rfl rfl ?_
    refine s_ifne (pc := 56) 66 dX11_law_56 rfl ?_ ?_
    · refine s_aload_n (pc := 66) 0 dX11_law_66 rfl rfl ?_
      refine s_aload_n (pc := 67) 0 dX11_law_67 rfl rfl ?_
      refine s_geto (pc := 68) F_11 0 rfl o22 dX11_law_68 kf_X11_10 ?_
      refine s_rvB (fun r23 => ?_)
      refine s_aload_n (pc := 71) 0 dX11_law_71 rfl rfl ?_
      refine s_geto (pc := 72) F_11 2 rfl o22 dX11_law_72 kf_X11_23 ?_
      refine s_rvB (fun r24 => ?_)
      refine s_grd (fun o25 => ?_)
      refine s_geto (pc := 75) F_7 3 rfl o25 dX11_law_75 kf_X11_199 ?_
      refine s_rvB (fun r26 => ?_)
      refine s_grd (fun o27 => ?_)
      refine s_bind (fun q28 hq29 => ?_)
      have hC30 := t_X9_kept (l := xl X) (G := xG X) hq29
      refine s_callV (pc := 78) (As := []) (st := [.ref (gh (xG X) + r23), .ref (gh (xG X) + a0)]) (nlt rfl) (q := (RX9, TX9, 5)) rfl rfl o27 cl_X9_kept wi_X9_kept wl_X9_kept km_X11_203 rfl rfl (nle rfl) (nle rfl) (nle rfl) dX11_law_78 hC30 ?_
      have h31 := hC30.1 X
      have o32 := h31.ok o22
      show S0 X _ q28.1 81 [some (.ref (gh (xG X) + a0)), some (.int q6.2)] [.ref (gh (xG X) + q28.2), .ref (gh (xG X) + r23), .ref (gh (xG X) + a0)] _
      refine s_grd (fun o33 => ?_)
      refine s_bind (fun q34 hq35 => ?_)
      have hC36 := t_X10_addLaw (l := xl X) (G := xG X) hq35
      refine s_callV (pc := 81) (As := [.ref (gh (xG X) + q28.2)]) (st := [.ref (gh (xG X) + a0)]) (nlt rfl) (q := (RX10, TX10, 15)) rfl rfl o33 cl_X10_addLaw wi_X10_addLaw wl_X10_addLaw km_X11_209 rfl rfl (nle rfl) (nle rfl) (nle rfl) dX11_law_81 hC36 ?_
      have h37 := hC36.1 X
      have o38 := h37.ok o32
      show S0 X _ q34.1 84 [some (.ref (gh (xG X) + a0)), some (.int q6.2)] [.int q34.2, .ref (gh (xG X) + a0)] _
      refine s_bind (fun q39 hq40 => ?_)
      have hC41 := t_X11_accept (l := xl X) (G := xG X) hq40
      refine s_callV (pc := 84) (As := [.int q34.2]) (st := []) (nlt rfl) (q := (RX11, TX11, 16)) rfl rfl o38 cl_X11_accept wi_X11_accept wl_X11_accept km_X11_108 rfl rfl (nle rfl) (nle rfl) (nle rfl) dX11_law_84 hC41 ?_
      have h42 := hC41.1 X
      have o43 := h42.ok o38
      show S0 X _ q39.1 87 [some (.ref (gh (xG X) + a0)), some (.int q6.2)] [.int q39.2] _
      exact s_iret rfl dX11_law_87
    · refine s_aload_n (pc := 59) 0 dX11_law_59 rfl rfl ?_
      refine s_bipush (pc := 60) (-6) dX11_law_60 kb_m6 ?_
      refine s_bind (fun q44 hq45 => ?_)
      have hC46 := t_X11_refuse (l := xl X) (G := xG X) hq45
      refine s_callV (pc := 62) (As := [.int (-6)]) (st := []) (nlt rfl) (q := (RX11, TX11, 16)) rfl rfl o22 cl_X11_refuse wi_X11_refuse wl_X11_refuse km_X11_97 rfl rfl (nle rfl) (nle rfl) (nle rfl) dX11_law_62 hC46 ?_
      have h47 := hC46.1 X
      have o48 := h47.ok o22
      show S0 X _ q44.1 65 [some (.ref (gh (xG X) + a0)), some (.int q6.2)] [.int q44.2] _
      exact s_iret rfl dX11_law_65
  · refine s_aload_n (pc := 12) 0 dX11_law_12 rfl rfl ?_
    refine s_geto (pc := 13) F_11 2 rfl o1 dX11_law_13 kf_X11_23 ?_
    refine s_rvB (fun r49 => ?_)
    refine s_iconst (pc := 16) 0 dX11_law_16 kc_0 ?_
    refine s_grd (fun o50 => ?_)
    refine s_puti (pc := 17) F_7 4 rfl o50 rfl rfl rfl dX11_law_17 kf_X11_176 (fun M51 hM52 => ?_)
    have h53 := le_wI hM52
    have o54 := h53.ok o1
    refine s_aload_n (pc := 20) 0 dX11_law_20 rfl rfl ?_
    refine s_bipush (pc := 21) (-5) dX11_law_21 kb_m5 ?_
    refine s_bind (fun q55 hq56 => ?_)
    have hC57 := t_X11_refuse (l := xl X) (G := xG X) hq56
    refine s_callV (pc := 23) (As := [.int (-5)]) (st := []) (nlt rfl) (q := (RX11, TX11, 16)) rfl rfl o54 cl_X11_refuse wi_X11_refuse wl_X11_refuse km_X11_97 rfl rfl (nle rfl) (nle rfl) (nle rfl) dX11_law_23 hC57 ?_
    have h58 := hC57.1 X
    have o59 := h58.ok o54
    show S0 X _ q55.1 26 [some (.ref (gh (xG X) + a0)), none] [.int q55.2] _
    exact s_iret rfl dX11_law_26
set_option maxRecDepth 100000 in
set_option maxHeartbeats 8000000 in
noncomputable def f_X11_orders (M : Mem) (a0 : Nat) : Option (Mem × Int32) :=
  grd (okO M 11 a0) (Option.bind (mR M a0 2) (fun r2 => grd (okO M 7 r2) (Option.bind (f_X7_read M r2 1) (fun q4 => Option.bind (mR q4.1 a0 2) (fun r9 => grd (okO q4.1 7 r9) (bv (wI q4.1 r9 4 0) (fun M11 => Option.bind (mR M11 a0 2) (fun r15 => grd (okO M11 7 r15) (bv (wI M11 a0 14 (mI M11 r15 5)) (fun M17 => bv (wI M17 a0 15 (-1)) (fun M21 => if q4.2 = 0 then (Option.bind (f_X11_refuse M21 a0 (-6)) (fun q120 => some (q120.1, q120.2))) else (Option.bind (mR M21 a0 0) (fun r25 => grd (okO M21 10 r25) (bv (mI M21 r25 8 : Int32) (fun x27 => Option.bind (mR M21 a0 0) (fun r28 => grd (okO M21 10 r28) (bv (mI M21 r28 11 : Int32) (fun x30 => Option.bind (f_X11_tellSteward M21 a0) (fun q31 => Option.bind (loopO (σ := Mem × Int32) (ρ := Mem ⊕ (Mem × Int32 × Int32)) (fun s36 => Option.bind (mR s36.1 a0 2) (fun r49 => grd (okO s36.1 7 r49) (Option.bind (mR s36.1 r49 3) (fun r51 => grd (okO s36.1 9 r51) (if (mI s36.1 r51 2) ≤ s36.2 then (some (.inr (.inl s36.1))) else (Option.bind (loopO (σ := Mem × Int32) (ρ := Mem ⊕ (Mem × Int32)) (fun s53 => Option.bind (mR s53.1 a0 2) (fun r66 => grd (okO s53.1 7 r66) (Option.bind (mR s53.1 r66 3) (fun r68 => grd (okO s53.1 9 r68) (Option.bind (f_X9_told s53.1 r68 s36.2 1) (fun q70 => if q70 ≤ s53.2 then (some (.inr (.inl s53.1))) else (Option.bind (mR s53.1 a0 2) (fun r73 => grd (okO s53.1 7 r73) (Option.bind (mR s53.1 r73 3) (fun r75 => Option.bind (f_X11_runOnce s53.1 a0 r75 s36.2) (fun q76 => if 0 ≤ q76.2 then (bv (s53.2 + 1 : Int32) (fun x81 => some (.inl (q76.1, x81)))) else (some (.inr (.inr (q76.1, q76.2))))))))))))))) (s36.1, 0)) (Sum.elim (fun (x62 : Mem) => bv (s36.2 + 1 : Int32) (fun x83 => some (.inl (x62, x83)))) (fun (x64 : Mem × Int32) => some (.inr (.inr (x64.1, s36.2, x64.2))))))))))) (q31, 0)) (Sum.elim (fun (x45 : Mem) => Option.bind (mR x45 a0 3) (fun r86 => grd (okO x45 3 r86) (Option.bind (mR x45 r86 0) (fun r88 => grd (okO x45 14 r88) (grd (vp_in 2 (mL x45 r88)) (Option.bind (f_X11_accept x45 a0 (mI x45 r88 (2 : Int32).toNatClampNeg)) (fun q91 => some (q91.1, q91.2)))))))) (fun (x47 : Mem × Int32 × Int32) => bv (wI x47.1 a0 15 x47.2.1) (fun M97 => Option.bind (mR M97 a0 0) (fun r101 => grd (okO M97 10 r101) (Option.bind (f_X10_keepHouses M97 r101 x27) (fun q103 => Option.bind (mR q103 a0 0) (fun r108 => grd (okO q103 10 r108) (Option.bind (f_X10_turnTo q103 r108 x30) (fun q110 => Option.bind (f_X11_refuse q110 a0 x47.2.2) (fun q115 => some (q115.1, q115.2))))))))))))))))))))))))))))))
abbrev Y_X11_orders : Sta := (RX11, "orders", cX11_orders, 7, (some .int), 209)
set_option maxRecDepth 100000 in
set_option maxHeartbeats 8000000 in
theorem t_X11_orders {l : Launch} {G : Gh} {M : Mem} {a0 : Nat} {q : Mem × Int32} (h : f_X11_orders M a0 = some q) : Ctr l G yX11_orders Y_X11_orders M [.ref (gh G + a0)] q.1 (some (.int q.2)) := by
  refine Ctr.of (Y := Y_X11_orders) (L := [some (.ref (gh G + a0)), none, none, none, none, none, none]) (t := Option.bind (f_X11_orders M a0) (fun q => some (q.1, some (.int q.2)))) (by decide) rfl rfl (nle rfl) (Lof_in 6 _ rfl) (fun X hG hl => ?_) (by rw [h]; rfl)
  subst hG
  subst hl
  unfold f_X11_orders
  refine s_aload_n (pc := 0) 0 dX11_orders_0 rfl rfl ?_
  refine s_grd (fun o1 => ?_)
  refine s_geto (pc := 1) F_11 2 rfl o1 dX11_orders_1 kf_X11_23 ?_
  refine s_rvB (fun r2 => ?_)
  refine s_iconst (pc := 4) 1 dX11_orders_4 kc_1 ?_
  refine s_grd (fun o3 => ?_)
  refine s_bind (fun q4 hq5 => ?_)
  have hC6 := t_X7_read (l := xl X) (G := xG X) hq5
  refine s_callV (pc := 5) (As := [.int 1]) (st := []) (nlt rfl) (q := (RX7, TX7, 10)) rfl rfl o3 cl_X7_read wi_X7_read wl_X7_read km_X11_192 rfl rfl (nle rfl) (nle rfl) (nle rfl) dX11_orders_5 hC6 ?_
  have h7 := hC6.1 X
  have o8 := h7.ok o1
  show S0 X _ q4.1 8 [some (.ref (gh (xG X) + a0)), none, none, none, none, none, none] [.int q4.2] _
  refine s_istore_n (pc := 8) 1 dX11_orders_8 rfl (nlt rfl) rfl (L' := [some (.ref (gh (xG X) + a0)), some (.int q4.2), none, none, none, none, none]) rfl ?_
  refine s_aload_n (pc := 9) 0 dX11_orders_9 rfl rfl ?_
  refine s_geto (pc := 10) F_11 2 rfl o8 dX11_orders_10 kf_X11_23 ?_
  refine s_rvB (fun r9 => ?_)
  refine s_iconst (pc := 13) 0 dX11_orders_13 kc_0 ?_
  refine s_grd (fun o10 => ?_)
  refine s_puti (pc := 14) F_7 4 rfl o10 rfl rfl rfl dX11_orders_14 kf_X11_176 (fun M11 hM12 => ?_)
  have h13 := le_wI hM12
  have o14 := h13.ok o8
  refine s_aload_n (pc := 17) 0 dX11_orders_17 rfl rfl ?_
  refine s_aload_n (pc := 18) 0 dX11_orders_18 rfl rfl ?_
  refine s_geto (pc := 19) F_11 2 rfl o14 dX11_orders_19 kf_X11_23 ?_
  refine s_rvB (fun r15 => ?_)
  refine s_grd (fun o16 => ?_)
  refine s_geti (pc := 22) F_7 5 rfl o16 dX11_orders_22 kf_X11_196 ?_
  refine s_puti (pc := 25) F_11 14 rfl o14 rfl rfl rfl dX11_orders_25 kf_X11_82 (fun M17 hM18 => ?_)
  have h19 := le_wI hM18
  have o20 := h19.ok o14
  refine s_aload_n (pc := 28) 0 dX11_orders_28 rfl rfl ?_
  refine s_iconst (pc := 29) (-1) dX11_orders_29 kc_m1 ?_
  refine s_puti (pc := 30) F_11 15 rfl o20 rfl rfl rfl dX11_orders_30 kf_X11_86 (fun M21 hM22 => ?_)
  have h23 := le_wI hM22
  have o24 := h23.ok o20
  refine s_iload_n (pc := 33) 1 dX11_orders_33 rfl rfl ?_
  refine s_ifne (pc := 34) 44 dX11_orders_34 rfl ?_ ?_
  · refine s_aload_n (pc := 44) 0 dX11_orders_44 rfl rfl ?_
    refine s_geto (pc := 45) F_11 0 rfl o24 dX11_orders_45 kf_X11_10 ?_
    refine s_rvB (fun r25 => ?_)
    refine s_grd (fun o26 => ?_)
    refine s_getiN (pc := 48) F_10 8 rfl o26 dX11_orders_48 (List.mem_of_getElem? (i := 9) rfl) ?_
    refine s_istore_n (pc := 51) 2 dX11_orders_51 rfl (nlt rfl) rfl (L' := [some (.ref (gh (xG X) + a0)), some (.int q4.2), some (.int (mI M21 r25 8)), none, none, none, none]) rfl ?_
    refine s_bv (fun x27 : Int32 => [some (.ref (gh (xG X) + a0)), some (.int q4.2), some (.int x27), none, none, none, none]) (fun x27 => ?_) rfl
    refine s_aload_n (pc := 52) 0 dX11_orders_52 rfl rfl ?_
    refine s_geto (pc := 53) F_11 0 rfl o24 dX11_orders_53 kf_X11_10 ?_
    refine s_rvB (fun r28 => ?_)
    refine s_grd (fun o29 => ?_)
    refine s_getiN (pc := 56) F_10 11 rfl o29 dX11_orders_56 (List.mem_of_getElem? (i := 14) rfl) ?_
    refine s_istore_n (pc := 59) 3 dX11_orders_59 rfl (nlt rfl) rfl (L' := [some (.ref (gh (xG X) + a0)), some (.int q4.2), some (.int x27), some (.int (mI M21 r28 11)), none, none, none]) rfl ?_
    refine s_bv (fun x30 : Int32 => [some (.ref (gh (xG X) + a0)), some (.int q4.2), some (.int x27), some (.int x30), none, none, none]) (fun x30 => ?_) rfl
    refine s_aload_n (pc := 60) 0 dX11_orders_60 rfl rfl ?_
    refine s_bind (fun q31 hq32 => ?_)
    have hC33 := t_X11_tellSteward (l := xl X) (G := xG X) hq32
    refine s_callV (pc := 61) (As := []) (st := []) (nlt rfl) (q := (RX11, TX11, 16)) rfl rfl o24 cl_X11_tellSteward wi_X11_tellSteward wl_X11_tellSteward km_X11_213 rfl rfl (nle rfl) (nle rfl) (nle rfl) dX11_orders_61 hC33 ?_
    have h34 := hC33.1 X
    have o35 := h34.ok o24
    show S0 X _ q31 64 [some (.ref (gh (xG X) + a0)), some (.int q4.2), some (.int x27), some (.int x30), none, none, none] [] _
    refine s_iconst (pc := 64) 0 dX11_orders_64 kc_0 ?_
    refine s_istore (pc := 65) dX11_orders_65 (nlt rfl) rfl (L' := [some (.ref (gh (xG X) + a0)), some (.int q4.2), some (.int x27), some (.int x30), some (.int 0), none, none]) rfl ?_
    refine s_drop (L' := [some (.ref (gh (xG X) + a0)), none, some (.int x27), some (.int x30), some (.int 0), none, none]) ?_ (And.intro rfl (And.intro rfl (And.intro rfl (And.intro rfl trivial))))
    refine s_loop2 q31 (fun s36 : Mem × Int32 => s36.1) (fun s36 : Mem × Int32 => [some (.ref (gh (xG X) + a0)), none, some (.int x27), some (.int x30), some (.int s36.2), none, none]) (fun x45 : Mem => x45) 164 (fun x45 : Mem => [some (.ref (gh (xG X) + a0)), none, none, none, none, none, none]) (fun x47 : Mem × Int32 × Int32 => x47.1) 123 (fun x47 : Mem × Int32 × Int32 => [some (.ref (gh (xG X) + a0)), none, some (.int x27), some (.int x30), some (.int x47.2.1), none, some (.int x47.2.2)]) (fun x45 hx46 => ?_) (fun x47 hx48 => ?_) (fun T38 R40 R42 hT39 hR41 hR43 s36 hs37 => ?_) (q31, 0) Le.rf
    · show S0 X _ x45 164 [some (.ref (gh (xG X) + a0)), none, none, none, none, none, none] [] _
      have o85 := hx46.ok o35
      refine s_aload_n (pc := 164) 0 dX11_orders_164 rfl rfl ?_
      refine s_aload_n (pc := 165) 0 dX11_orders_165 rfl rfl ?_
      refine s_geto (pc := 166) F_11 3 rfl o85 dX11_orders_166 kf_X11_30 ?_
      refine s_rvB (fun r86 => ?_)
      refine s_grd (fun o87 => ?_)
      refine s_geto (pc := 169) F_3 0 rfl o87 dX11_orders_169 kf_X11_224 ?_
      refine s_rvB (fun r88 => ?_)
      refine s_iconst (pc := 172) 2 dX11_orders_172 kc_2 ?_
      refine s_grd (fun o89 => ?_)
      refine s_grd (fun i90 => ?_)
      refine s_iald (pc := 173) o89 i90 dX11_orders_173 ?_
      refine s_bind (fun q91 hq92 => ?_)
      have hC93 := t_X11_accept (l := xl X) (G := xG X) hq92
      refine s_callV (pc := 174) (As := [.int (mI x45 r88 (2 : Int32).toNatClampNeg)]) (st := []) (nlt rfl) (q := (RX11, TX11, 16)) rfl rfl o85 cl_X11_accept wi_X11_accept wl_X11_accept km_X11_108 rfl rfl (nle rfl) (nle rfl) (nle rfl) dX11_orders_174 hC93 ?_
      have h94 := hC93.1 X
      have o95 := h94.ok o85
      show S0 X _ q91.1 177 [some (.ref (gh (xG X) + a0)), none, none, none, none, none, none] [.int q91.2] _
      exact s_iret rfl dX11_orders_177
    · show S0 X _ x47.1 123 [some (.ref (gh (xG X) + a0)), none, some (.int x27), some (.int x30), some (.int x47.2.1), none, some (.int x47.2.2)] [] _
      have o96 := hx48.ok o35
      refine s_aload_n (pc := 123) 0 dX11_orders_123 rfl rfl ?_
      refine s_iload (pc := 124) dX11_orders_124 rfl ?_
      refine s_puti (pc := 126) F_11 15 rfl o96 rfl rfl rfl dX11_orders_126 kf_X11_86 (fun M97 hM98 => ?_)
      have h99 := le_wI hM98
      have o100 := h99.ok o96
      refine s_aload_n (pc := 129) 0 dX11_orders_129 rfl rfl ?_
      refine s_geto (pc := 130) F_11 0 rfl o100 dX11_orders_130 kf_X11_10 ?_
      refine s_rvB (fun r101 => ?_)
      refine s_iload_n (pc := 133) 2 dX11_orders_133 rfl rfl ?_
      refine s_grd (fun o102 => ?_)
      refine s_bind (fun q103 hq104 => ?_)
      have hC105 := t_X10_keepHouses (l := xl X) (G := xG X) hq104
      refine s_callV (pc := 134) (As := [.int x27]) (st := []) (nlt rfl) (q := (RX10, TX10, 15)) rfl rfl o102 cl_X10_keepHouses wi_X10_keepHouses wl_X10_keepHouses km_X11_139 rfl rfl (nle rfl) (nle rfl) (nle rfl) dX11_orders_134 hC105 ?_
      have h106 := hC105.1 X
      have o107 := h106.ok o100
      show S0 X _ q103 137 [some (.ref (gh (xG X) + a0)), none, some (.int x27), some (.int x30), some (.int x47.2.1), none, some (.int x47.2.2)] [] _
      refine s_aload_n (pc := 137) 0 dX11_orders_137 rfl rfl ?_
      refine s_geto (pc := 138) F_11 0 rfl o107 dX11_orders_138 kf_X11_10 ?_
      refine s_rvB (fun r108 => ?_)
      refine s_iload_n (pc := 141) 3 dX11_orders_141 rfl rfl ?_
      refine s_grd (fun o109 => ?_)
      refine s_bind (fun q110 hq111 => ?_)
      have hC112 := t_X10_turnTo (l := xl X) (G := xG X) hq111
      refine s_callV (pc := 142) (As := [.int x30]) (st := []) (nlt rfl) (q := (RX10, TX10, 15)) rfl rfl o109 cl_X10_turnTo wi_X10_turnTo wl_X10_turnTo km_X11_164 rfl rfl (nle rfl) (nle rfl) (nle rfl) dX11_orders_142 hC112 ?_
      have h113 := hC112.1 X
      have o114 := h113.ok o107
      show S0 X _ q110 145 [some (.ref (gh (xG X) + a0)), none, some (.int x27), some (.int x30), some (.int x47.2.1), none, some (.int x47.2.2)] [] _
      refine s_aload_n (pc := 145) 0 dX11_orders_145 rfl rfl ?_
      refine s_iload (pc := 146) dX11_orders_146 rfl ?_
      refine s_bind (fun q115 hq116 => ?_)
      have hC117 := t_X11_refuse (l := xl X) (G := xG X) hq116
      refine s_callV (pc := 148) (As := [.int x47.2.2]) (st := []) (nlt rfl) (q := (RX11, TX11, 16)) rfl rfl o114 cl_X11_refuse wi_X11_refuse wl_X11_refuse km_X11_97 rfl rfl (nle rfl) (nle rfl) (nle rfl) dX11_orders_148 hC117 ?_
      have h118 := hC117.1 X
      have o119 := h118.ok o114
      show S0 X _ q115.1 151 [some (.ref (gh (xG X) + a0)), none, some (.int x27), some (.int x30), some (.int x47.2.1), none, some (.int x47.2.2)] [.int q115.2] _
      exact s_iret rfl dX11_orders_151
    · show S0 X _ s36.1 67 [some (.ref (gh (xG X) + a0)), none, some (.int x27), some (.int x30), some (.int s36.2), none, none] [] _
      have o44 := hs37.ok o35
      refine s_iload (pc := 67) dX11_orders_67 rfl ?_
      refine s_aload_n (pc := 69) 0 dX11_orders_69 rfl rfl ?_
      refine s_geto (pc := 70) F_11 2 rfl o44 dX11_orders_70 kf_X11_23 ?_
      refine s_rvB (fun r49 => ?_)
      refine s_grd (fun o50 => ?_)
      refine s_geto (pc := 73) F_7 3 rfl o50 dX11_orders_73 kf_X11_199 ?_
      refine s_rvB (fun r51 => ?_)
      refine s_grd (fun o52 => ?_)
      refine s_geti (pc := 76) F_9 2 rfl o52 dX11_orders_76 kf_X11_216 ?_
      refine s_icge (pc := 79) 164 dX11_orders_79 rfl ?_ ?_
      · exact s_drop (hR41 s36.1 hs37) (And.intro rfl trivial)
      · refine s_iconst (pc := 82) 0 dX11_orders_82 kc_0 ?_
        refine s_istore (pc := 83) dX11_orders_83 (nlt rfl) rfl (L' := [some (.ref (gh (xG X) + a0)), none, some (.int x27), some (.int x30), some (.int s36.2), some (.int 0), none]) rfl ?_
        refine s_drop (L' := [some (.ref (gh (xG X) + a0)), none, some (.int x27), some (.int x30), some (.int s36.2), some (.int 0), none]) ?_ (And.intro rfl (And.intro rfl (And.intro rfl (And.intro rfl (And.intro rfl trivial)))))
        refine s_loop2 s36.1 (fun s53 : Mem × Int32 => s53.1) (fun s53 : Mem × Int32 => [some (.ref (gh (xG X) + a0)), none, some (.int x27), some (.int x30), some (.int s36.2), some (.int s53.2), none]) (fun x62 : Mem => x62) 158 (fun x62 : Mem => [some (.ref (gh (xG X) + a0)), none, some (.int x27), some (.int x30), some (.int s36.2), none, none]) (fun x64 : Mem × Int32 => x64.1) 123 (fun x64 : Mem × Int32 => [some (.ref (gh (xG X) + a0)), none, some (.int x27), some (.int x30), some (.int s36.2), none, some (.int x64.2)]) (fun x62 hx63 => ?_) (fun x64 hx65 => ?_) (fun T55 R57 R59 hT56 hR58 hR60 s53 hs54 => ?_) (s36.1, 0) Le.rf
        · show S0 X _ x62 158 [some (.ref (gh (xG X) + a0)), none, some (.int x27), some (.int x30), some (.int s36.2), none, none] [] _
          have o82 := hx63.ok o44
          refine s_iinc (pc := 158) dX11_orders_158 rfl (v := s36.2 + 1) (congrArg (fun z : Int32 => s36.2 + z) kc_1) (nlt rfl) rfl (L' := [some (.ref (gh (xG X) + a0)), none, some (.int x27), some (.int x30), some (.int (s36.2 + 1)), none, none]) rfl ?_
          refine s_bv (fun x83 : Int32 => [some (.ref (gh (xG X) + a0)), none, some (.int x27), some (.int x30), some (.int x83), none, none]) (fun x83 => ?_) rfl
          refine s_goto (pc := 161) 67 dX11_orders_161 rfl ?_
          exact s_drop (hT39 (x62, x83) (hs37.tr hx63)) (And.intro rfl (And.intro rfl (And.intro rfl (And.intro rfl trivial))))
        · show S0 X _ x64.1 123 [some (.ref (gh (xG X) + a0)), none, some (.int x27), some (.int x30), some (.int s36.2), none, some (.int x64.2)] [] _
          have o84 := hx65.ok o44
          exact s_drop (hR43 (x64.1, s36.2, x64.2) (hs37.tr hx65)) (And.intro rfl (And.intro rfl (And.intro rfl (And.intro rfl (And.intro rfl trivial)))))
        · show S0 X _ s53.1 85 [some (.ref (gh (xG X) + a0)), none, some (.int x27), some (.int x30), some (.int s36.2), some (.int s53.2), none] [] _
          have o61 := hs54.ok o44
          refine s_iload (pc := 85) dX11_orders_85 rfl ?_
          refine s_aload_n (pc := 87) 0 dX11_orders_87 rfl rfl ?_
          refine s_geto (pc := 88) F_11 2 rfl o61 dX11_orders_88 kf_X11_23 ?_
          refine s_rvB (fun r66 => ?_)
          refine s_grd (fun o67 => ?_)
          refine s_geto (pc := 91) F_7 3 rfl o67 dX11_orders_91 kf_X11_199 ?_
          refine s_rvB (fun r68 => ?_)
          refine s_iload (pc := 94) dX11_orders_94 rfl ?_
          refine s_iconst (pc := 96) 1 dX11_orders_96 kc_1 ?_
          refine s_grd (fun o69 => ?_)
          refine s_bind (fun q70 hq71 => ?_)
          have hC72 := t_X9_told (l := xl X) (G := xG X) hq71
          refine s_callV (pc := 97) (As := [.int s36.2, .int 1]) (st := [.int s53.2]) (nlt rfl) (q := (RX9, TX9, 5)) rfl rfl o69 cl_X9_told wi_X9_told wl_X9_told km_X11_217 rfl rfl (nle rfl) (nle rfl) (nle rfl) dX11_orders_97 hC72 ?_
          show S0 X _ s53.1 100 [some (.ref (gh (xG X) + a0)), none, some (.int x27), some (.int x30), some (.int s36.2), some (.int s53.2), none] [.int q70, .int s53.2] _
          refine s_icge (pc := 100) 158 dX11_orders_100 rfl ?_ ?_
          · exact s_drop (hR58 s53.1 hs54) (And.intro rfl (And.intro rfl (And.intro rfl (And.intro rfl trivial))))
          · refine s_aload_n (pc := 103) 0 dX11_orders_103 rfl rfl ?_
            refine s_aload_n (pc := 104) 0 dX11_orders_104 rfl rfl ?_
            refine s_geto (pc := 105) F_11 2 rfl o61 dX11_orders_105 kf_X11_23 ?_
            refine s_rvB (fun r73 => ?_)
            refine s_grd (fun o74 => ?_)
            refine s_geto (pc := 108) F_7 3 rfl o74 dX11_orders_108 kf_X11_199 ?_
            refine s_rvB (fun r75 => ?_)
            refine s_iload (pc := 111) dX11_orders_111 rfl ?_
            refine s_bind (fun q76 hq77 => ?_)
            have hC78 := t_X11_runOnce (l := xl X) (G := xG X) hq77
            refine s_callV (pc := 113) (As := [.ref (gh (xG X) + r75), .int s36.2]) (st := []) (nlt rfl) (q := (RX11, TX11, 16)) rfl rfl o61 cl_X11_runOnce wi_X11_runOnce wl_X11_runOnce km_X11_220 rfl rfl (nle rfl) (nle rfl) (nle rfl) dX11_orders_113 hC78 ?_
            have h79 := hC78.1 X
            have o80 := h79.ok o61
            show S0 X _ q76.1 116 [some (.ref (gh (xG X) + a0)), none, some (.int x27), some (.int x30), some (.int s36.2), some (.int s53.2), none] [.int q76.2] _
            refine s_istore (pc := 116) dX11_orders_116 (nlt rfl) rfl (L' := [some (.ref (gh (xG X) + a0)), none, some (.int x27), some (.int x30), some (.int s36.2), some (.int s53.2), some (.int q76.2)]) rfl ?_
            refine s_iload (pc := 118) dX11_orders_118 rfl ?_
            refine s_ifge (pc := 120) 152 dX11_orders_120 rfl ?_ ?_
            · refine s_iinc (pc := 152) dX11_orders_152 rfl (v := s53.2 + 1) (congrArg (fun z : Int32 => s53.2 + z) kc_1) (nlt rfl) rfl (L' := [some (.ref (gh (xG X) + a0)), none, some (.int x27), some (.int x30), some (.int s36.2), some (.int (s53.2 + 1)), some (.int q76.2)]) rfl ?_
              refine s_bv (fun x81 : Int32 => [some (.ref (gh (xG X) + a0)), none, some (.int x27), some (.int x30), some (.int s36.2), some (.int x81), some (.int q76.2)]) (fun x81 => ?_) rfl
              refine s_goto (pc := 155) 85 dX11_orders_155 rfl ?_
              exact s_drop (hT56 (q76.1, x81) (hs54.tr h79)) (And.intro rfl (And.intro rfl (And.intro rfl (And.intro rfl (And.intro rfl trivial)))))
            · exact s_drop (hR60 (q76.1, q76.2) (hs54.tr h79)) (And.intro rfl (And.intro rfl (And.intro rfl (And.intro rfl (And.intro rfl trivial)))))
  · refine s_aload_n (pc := 37) 0 dX11_orders_37 rfl rfl ?_
    refine s_bipush (pc := 38) (-6) dX11_orders_38 kb_m6 ?_
    refine s_bind (fun q120 hq121 => ?_)
    have hC122 := t_X11_refuse (l := xl X) (G := xG X) hq121
    refine s_callV (pc := 40) (As := [.int (-6)]) (st := []) (nlt rfl) (q := (RX11, TX11, 16)) rfl rfl o24 cl_X11_refuse wi_X11_refuse wl_X11_refuse km_X11_97 rfl rfl (nle rfl) (nle rfl) (nle rfl) dX11_orders_40 hC122 ?_
    have h123 := hC122.1 X
    have o124 := h123.ok o24
    show S0 X _ q120.1 43 [some (.ref (gh (xG X) + a0)), some (.int q4.2), none, none, none, none, none] [.int q120.2] _
    exact s_iret rfl dX11_orders_43
set_option maxRecDepth 100000 in
set_option maxHeartbeats 8000000 in
noncomputable def f_X12_at (M : Mem) (a0 : Nat) (p1 : Int32) (p2 : Int32) : Option (Mem × Int32) :=
  grd (okO M 12 a0) (Option.bind (f_X12_isHouse M a0 p1) (fun q2 => if q2 = 0 then (some (M, (-1))) else (bv (fun (s6 : Unit) => Option.bind (f_X12_fact M a0 p1 p2) (fun q9 => some (M, q9))) (fun j5 => swO p2 (swC 0 [(48, j5 ()), (48, j5 ()), (48, j5 ()), (55, Option.bind (f_X12_daughters M a0 p1) (fun q12 => some (M, q12))), (61, Option.bind (f_X12_fact M a0 p1 0) (fun q15 => if q15 = (-1) then (some (M, (-1))) else (Option.bind (f_X12_fact M a0 p1 0) (fun q18 => Option.bind (f_X12_fact M a0 q18 2) (fun q21 => Option.bind (f_X12_fact M a0 p1 2) (fun q24 => Option.bind (f_X12_fact M a0 p1 1) (fun q27 => Option.bind (f_X12_stepsIn M a0 q21 q24 q27) (fun q30 => some (q30.1, q30.2))))))))), (103, Option.bind (f_X12_changedBack M a0 p1) (fun q35 => some (M, q35)))]) (some (M, (-1)))))))
abbrev Y_X12_at : Sta := (RX12, "at", cX12_at, 3, (some .int), 209)
set_option maxRecDepth 100000 in
set_option maxHeartbeats 8000000 in
theorem t_X12_at {l : Launch} {G : Gh} {M : Mem} {a0 : Nat} {p1 : Int32} {p2 : Int32} {q : Mem × Int32} (h : f_X12_at M a0 p1 p2 = some q) : Ctr l G yX12_at Y_X12_at M [.ref (gh G + a0), .int p1, .int p2] q.1 (some (.int q.2)) := by
  refine Ctr.of (Y := Y_X12_at) (L := [some (.ref (gh G + a0)), some (.int p1), some (.int p2)]) (t := Option.bind (f_X12_at M a0 p1 p2) (fun q => some (q.1, some (.int q.2)))) (by decide) rfl rfl (nle rfl) (Lof_in 0 _ rfl) (fun X hG hl => ?_) (by rw [h]; rfl)
  subst hG
  subst hl
  unfold f_X12_at
  refine s_aload_n (pc := 0) 0 dX12_at_0 rfl rfl ?_
  refine s_iload_n (pc := 1) 1 dX12_at_1 rfl rfl ?_
  refine s_grd (fun o1 => ?_)
  refine s_bind (fun q2 hq3 => ?_)
  have hC4 := t_X12_isHouse (l := xl X) (G := xG X) hq3
  refine s_callV (pc := 2) (As := [.int p1]) (st := []) (nlt rfl) (q := (RX12, TX12, 59)) rfl rfl o1 cl_X12_isHouse wi_X12_isHouse wl_X12_isHouse km_X12_191 rfl rfl (nle rfl) (nle rfl) (nle rfl) dX12_at_2 hC4 ?_
  show S0 X _ M 5 [some (.ref (gh (xG X) + a0)), some (.int p1), some (.int p2)] [.int q2] _
  refine s_ifne (pc := 5) 10 dX12_at_5 rfl ?_ ?_
  · refine s_iload_n (pc := 10) 2 dX12_at_10 rfl rfl ?_
    refine s_join M (fun s6 : Unit => M) 48 (fun s6 : Unit => [some (.ref (gh (xG X) + a0)), some (.int p1), some (.int p2)]) (fun s6 : Unit => []) (fun s6 hs7 => ?_) (fun j5 hj8 => ?_)
    · show S0 X _ M 48 [some (.ref (gh (xG X) + a0)), some (.int p1), some (.int p2)] [] _
      refine s_aload_n (pc := 48) 0 dX12_at_48 rfl rfl ?_
      refine s_iload_n (pc := 49) 1 dX12_at_49 rfl rfl ?_
      refine s_iload_n (pc := 50) 2 dX12_at_50 rfl rfl ?_
      refine s_bind (fun q9 hq10 => ?_)
      have hC11 := t_X12_fact (l := xl X) (G := xG X) hq10
      refine s_callV (pc := 51) (As := [.int p1, .int p2]) (st := []) (nlt rfl) (q := (RX12, TX12, 59)) rfl rfl o1 cl_X12_fact wi_X12_fact wl_X12_fact km_X12_194 rfl rfl (nle rfl) (nle rfl) (nle rfl) dX12_at_51 hC11 ?_
      show S0 X _ M 54 [some (.ref (gh (xG X) + a0)), some (.int p1), some (.int p2)] [.int q9] _
      exact s_iret rfl dX12_at_54
    · refine s_tsw (pc := 11) _ 109 dX12_at_11 rfl rfl (And.intro (by decide) (And.intro (by simp only [List.length_cons, List.length_nil]; decide) rfl)) ?_ ?_
      · refine (And.intro ?_ (And.intro ?_ (And.intro ?_ (And.intro ?_ (And.intro ?_ (And.intro ?_ trivial))))))
        · dsimp only
          exact s_drop (hj8 () Le.rf) (And.intro rfl (And.intro rfl (And.intro rfl trivial)))
        · dsimp only
          exact s_drop (hj8 () Le.rf) (And.intro rfl (And.intro rfl (And.intro rfl trivial)))
        · dsimp only
          exact s_drop (hj8 () Le.rf) (And.intro rfl (And.intro rfl (And.intro rfl trivial)))
        · dsimp only
          refine s_aload_n (pc := 55) 0 dX12_at_55 rfl rfl ?_
          refine s_iload_n (pc := 56) 1 dX12_at_56 rfl rfl ?_
          refine s_bind (fun q12 hq13 => ?_)
          have hC14 := t_X12_daughters (l := xl X) (G := xG X) hq13
          refine s_callV (pc := 57) (As := [.int p1]) (st := []) (nlt rfl) (q := (RX12, TX12, 59)) rfl rfl o1 cl_X12_daughters wi_X12_daughters wl_X12_daughters km_X12_371 rfl rfl (nle rfl) (nle rfl) (nle rfl) dX12_at_57 hC14 ?_
          show S0 X _ M 60 [some (.ref (gh (xG X) + a0)), some (.int p1), some (.int p2)] [.int q12] _
          exact s_iret rfl dX12_at_60
        · dsimp only
          refine s_aload_n (pc := 61) 0 dX12_at_61 rfl rfl ?_
          refine s_iload_n (pc := 62) 1 dX12_at_62 rfl rfl ?_
          refine s_iconst (pc := 63) 0 dX12_at_63 kc_0 ?_
          refine s_bind (fun q15 hq16 => ?_)
          have hC17 := t_X12_fact (l := xl X) (G := xG X) hq16
          refine s_callV (pc := 64) (As := [.int p1, .int 0]) (st := []) (nlt rfl) (q := (RX12, TX12, 59)) rfl rfl o1 cl_X12_fact wi_X12_fact wl_X12_fact km_X12_194 rfl rfl (nle rfl) (nle rfl) (nle rfl) dX12_at_64 hC17 ?_
          show S0 X _ M 67 [some (.ref (gh (xG X) + a0)), some (.int p1), some (.int p2)] [.int q15] _
          refine s_iconst (pc := 67) (-1) dX12_at_67 kc_m1 ?_
          refine s_icne (pc := 68) 75 dX12_at_68 rfl ?_ ?_
          · refine s_aload_n (pc := 75) 0 dX12_at_75 rfl rfl ?_
            refine s_aload_n (pc := 76) 0 dX12_at_76 rfl rfl ?_
            refine s_aload_n (pc := 77) 0 dX12_at_77 rfl rfl ?_
            refine s_iload_n (pc := 78) 1 dX12_at_78 rfl rfl ?_
            refine s_iconst (pc := 79) 0 dX12_at_79 kc_0 ?_
            refine s_bind (fun q18 hq19 => ?_)
            have hC20 := t_X12_fact (l := xl X) (G := xG X) hq19
            refine s_callV (pc := 80) (As := [.int p1, .int 0]) (st := [.ref (gh (xG X) + a0), .ref (gh (xG X) + a0)]) (nlt rfl) (q := (RX12, TX12, 59)) rfl rfl o1 cl_X12_fact wi_X12_fact wl_X12_fact km_X12_194 rfl rfl (nle rfl) (nle rfl) (nle rfl) dX12_at_80 hC20 ?_
            show S0 X _ M 83 [some (.ref (gh (xG X) + a0)), some (.int p1), some (.int p2)] [.int q18, .ref (gh (xG X) + a0), .ref (gh (xG X) + a0)] _
            refine s_iconst (pc := 83) 2 dX12_at_83 kc_2 ?_
            refine s_bind (fun q21 hq22 => ?_)
            have hC23 := t_X12_fact (l := xl X) (G := xG X) hq22
            refine s_callV (pc := 84) (As := [.int q18, .int 2]) (st := [.ref (gh (xG X) + a0)]) (nlt rfl) (q := (RX12, TX12, 59)) rfl rfl o1 cl_X12_fact wi_X12_fact wl_X12_fact km_X12_194 rfl rfl (nle rfl) (nle rfl) (nle rfl) dX12_at_84 hC23 ?_
            show S0 X _ M 87 [some (.ref (gh (xG X) + a0)), some (.int p1), some (.int p2)] [.int q21, .ref (gh (xG X) + a0)] _
            refine s_aload_n (pc := 87) 0 dX12_at_87 rfl rfl ?_
            refine s_iload_n (pc := 88) 1 dX12_at_88 rfl rfl ?_
            refine s_iconst (pc := 89) 2 dX12_at_89 kc_2 ?_
            refine s_bind (fun q24 hq25 => ?_)
            have hC26 := t_X12_fact (l := xl X) (G := xG X) hq25
            refine s_callV (pc := 90) (As := [.int p1, .int 2]) (st := [.int q21, .ref (gh (xG X) + a0)]) (nlt rfl) (q := (RX12, TX12, 59)) rfl rfl o1 cl_X12_fact wi_X12_fact wl_X12_fact km_X12_194 rfl rfl (nle rfl) (nle rfl) (nle rfl) dX12_at_90 hC26 ?_
            show S0 X _ M 93 [some (.ref (gh (xG X) + a0)), some (.int p1), some (.int p2)] [.int q24, .int q21, .ref (gh (xG X) + a0)] _
            refine s_aload_n (pc := 93) 0 dX12_at_93 rfl rfl ?_
            refine s_iload_n (pc := 94) 1 dX12_at_94 rfl rfl ?_
            refine s_iconst (pc := 95) 1 dX12_at_95 kc_1 ?_
            refine s_bind (fun q27 hq28 => ?_)
            have hC29 := t_X12_fact (l := xl X) (G := xG X) hq28
            refine s_callV (pc := 96) (As := [.int p1, .int 1]) (st := [.int q24, .int q21, .ref (gh (xG X) + a0)]) (nlt rfl) (q := (RX12, TX12, 59)) rfl rfl o1 cl_X12_fact wi_X12_fact wl_X12_fact km_X12_194 rfl rfl (nle rfl) (nle rfl) (nle rfl) dX12_at_96 hC29 ?_
            show S0 X _ M 99 [some (.ref (gh (xG X) + a0)), some (.int p1), some (.int p2)] [.int q27, .int q24, .int q21, .ref (gh (xG X) + a0)] _
            refine s_bind (fun q30 hq31 => ?_)
            have hC32 := t_X12_stepsIn (l := xl X) (G := xG X) hq31
            refine s_callV (pc := 99) (As := [.int q21, .int q24, .int q27]) (st := []) (nlt rfl) (q := (RX12, TX12, 59)) rfl rfl o1 cl_X12_stepsIn wi_X12_stepsIn wl_X12_stepsIn km_X12_374 rfl rfl (nle rfl) (nle rfl) (nle rfl) dX12_at_99 hC32 ?_
            have h33 := hC32.1 X
            have o34 := h33.ok o1
            show S0 X _ q30.1 102 [some (.ref (gh (xG X) + a0)), some (.int p1), some (.int p2)] [.int q30.2] _
            exact s_iret rfl dX12_at_102
          · refine s_iconst (pc := 71) (-1) dX12_at_71 kc_m1 ?_
            refine s_goto (pc := 72) 102 dX12_at_72 rfl ?_
            exact s_iret rfl dX12_at_102
        · dsimp only
          refine s_aload_n (pc := 103) 0 dX12_at_103 rfl rfl ?_
          refine s_iload_n (pc := 104) 1 dX12_at_104 rfl rfl ?_
          refine s_bind (fun q35 hq36 => ?_)
          have hC37 := t_X12_changedBack (l := xl X) (G := xG X) hq36
          refine s_callV (pc := 105) (As := [.int p1]) (st := []) (nlt rfl) (q := (RX12, TX12, 59)) rfl rfl o1 cl_X12_changedBack wi_X12_changedBack wl_X12_changedBack km_X12_377 rfl rfl (nle rfl) (nle rfl) (nle rfl) dX12_at_105 hC37 ?_
          show S0 X _ M 108 [some (.ref (gh (xG X) + a0)), some (.int p1), some (.int p2)] [.int q35] _
          exact s_iret rfl dX12_at_108
      · refine s_iconst (pc := 109) (-1) dX12_at_109 kc_m1 ?_
        exact s_iret rfl dX12_at_110
  · refine s_iconst (pc := 8) (-1) dX12_at_8 kc_m1 ?_
    exact s_iret rfl dX12_at_9
