set_option maxRecDepth 100000 in
set_option maxHeartbeats 8000000 in
noncomputable def f_X7_orderClause (M : Mem) (a0 : Nat) : Option (Mem × Int32) :=
  grd (okO M 7 a0) (bv (fun (s3 : Int32) => bv (fun (s7 : Unit) => Option.bind (mR M a0 3) (fun r10 => grd (okO M 9 r10) (Option.bind (f_X9_open M r10 5) (fun q12 => Option.bind (f_X7_next q12 a0) (fun q17 => Option.bind (f_X7_sumFor q17 a0 3) (fun q22 => if q22.2 = 0 then (some (q22.1, 0)) else (bv (fun (s28 : Mem) => bv (fun (s33 : Mem) => Option.bind (f_X7_condition s33 a0) (fun q37 => grd (bl q37.2) (some (q37.1, q37.2)))) (fun j32 => if (mI s28 a0 8) = 261 then (Option.bind (f_X7_next s28 a0) (fun q43 => bv (fun (s49 : Unit) => Option.bind (f_X7_fail q43 a0) (fun q52 => grd (bl q52.2) (some (q52.1, q52.2)))) (fun j48 => if (mI q43 a0 8) < 1001 then (j48 ()) else (if (mI q43 a0 8) ≤ 1020 then (Option.bind (mR q43 a0 3) (fun r58 => grd (okO q43 9 r58) (Option.bind (f_X9_set q43 r58 1 ((mI q43 a0 8) - 1000)) (fun q60 => Option.bind (f_X7_next q60 a0) (fun q65 => j32 q65))))) else (j48 ()))))) else (j32 s28))) (fun j27 => if s3 = 0 then (j27 q22.1) else (Option.bind (f_X7_how q22.1 a0) (fun q70 => if q70.2 = 0 then (some (q70.1, 0)) else (j27 q70.1))))))))))) (fun j6 => if s3 = 0 then (if (mI M a0 8) = 278 then (j6 ()) else (Option.bind (f_X7_fail M a0) (fun q75 => grd (bl q75.2) (some (q75.1, q75.2))))) else (j6 ()))) (fun j2 => if (mI M a0 8) = 260 then (j2 1) else (j2 0)))
abbrev Y_X7_orderClause : Sta := (RX7, "orderClause", cX7_orderClause, 2, (some .boolean), 206)
set_option maxRecDepth 100000 in
set_option maxHeartbeats 8000000 in
theorem t_X7_orderClause {l : Launch} {G : Gh} {M : Mem} {a0 : Nat} {q : Mem × Int32} (h : f_X7_orderClause M a0 = some q) : Ctr l G yX7_orderClause Y_X7_orderClause M [.ref (gh G + a0)] q.1 (some (.int q.2)) := by
  refine Ctr.of (Y := Y_X7_orderClause) (L := [some (.ref (gh G + a0)), none]) (t := Option.bind (f_X7_orderClause M a0) (fun q => some (q.1, some (.int q.2)))) (by decide) rfl rfl (nle rfl) (Lof_in 1 _ rfl) (fun X hG hl => ?_) (by rw [h]; rfl)
  subst hG
  subst hl
  unfold f_X7_orderClause
  refine s_aload_n (pc := 0) 0 dX7_orderClause_0 rfl rfl ?_
  refine s_grd (fun o1 => ?_)
  refine s_geti (pc := 1) F_7 8 rfl o1 dX7_orderClause_1 kf_X7_66 ?_
  refine s_sipush (pc := 4) 260 dX7_orderClause_4 ks_260 ?_
  refine s_join M (fun s3 : Int32 => M) 15 (fun s3 : Int32 => [some (.ref (gh (xG X) + a0)), none]) (fun s3 : Int32 => [.int s3]) (fun s3 hs4 => ?_) (fun j2 hj5 => ?_)
  · show S0 X _ M 15 [some (.ref (gh (xG X) + a0)), none] [.int s3] _
    refine s_istore_n (pc := 15) 1 dX7_orderClause_15 rfl (nlt rfl) rfl (L' := [some (.ref (gh (xG X) + a0)), some (.int s3)]) rfl ?_
    refine s_iload_n (pc := 16) 1 dX7_orderClause_16 rfl rfl ?_
    refine s_join M (fun s7 : Unit => M) 35 (fun s7 : Unit => [some (.ref (gh (xG X) + a0)), some (.int s3)]) (fun s7 : Unit => []) (fun s7 hs8 => ?_) (fun j6 hj9 => ?_)
    · show S0 X _ M 35 [some (.ref (gh (xG X) + a0)), some (.int s3)] [] _
      refine s_aload_n (pc := 35) 0 dX7_orderClause_35 rfl rfl ?_
      refine s_geto (pc := 36) F_7 3 rfl o1 dX7_orderClause_36 kf_X7_26 ?_
      refine s_rvB (fun r10 => ?_)
      refine s_iconst (pc := 39) 5 dX7_orderClause_39 kc_5 ?_
      refine s_grd (fun o11 => ?_)
      refine s_bind (fun q12 hq13 => ?_)
      have hC14 := t_X9_open (l := xl X) (G := xG X) hq13
      refine s_callV (pc := 40) (As := [.int 5]) (st := []) (nlt rfl) (q := (RX9, TX9, 5)) rfl rfl o11 cl_X9_open wi_X9_open wl_X9_open km_X7_110 rfl rfl (nle rfl) (nle rfl) (nle rfl) dX7_orderClause_40 hC14 ?_
      have h15 := hC14.1 X
      have o16 := h15.ok o1
      show S0 X _ q12 43 [some (.ref (gh (xG X) + a0)), some (.int s3)] [] _
      refine s_aload_n (pc := 43) 0 dX7_orderClause_43 rfl rfl ?_
      refine s_bind (fun q17 hq18 => ?_)
      have hC19 := t_X7_next (l := xl X) (G := xG X) hq18
      refine s_callV (pc := 44) (As := []) (st := []) (nlt rfl) (q := (RX7, TX7, 10)) rfl rfl o16 cl_X7_next wi_X7_next wl_X7_next km_X7_79 rfl rfl (nle rfl) (nle rfl) (nle rfl) dX7_orderClause_44 hC19 ?_
      have h20 := hC19.1 X
      have o21 := h20.ok o16
      show S0 X _ q17 47 [some (.ref (gh (xG X) + a0)), some (.int s3)] [] _
      refine s_aload_n (pc := 47) 0 dX7_orderClause_47 rfl rfl ?_
      refine s_iconst (pc := 48) 3 dX7_orderClause_48 kc_3 ?_
      refine s_bind (fun q22 hq23 => ?_)
      have hC24 := t_X7_sumFor (l := xl X) (G := xG X) hq23
      refine s_callV (pc := 49) (As := [.int 3]) (st := []) (nlt rfl) (q := (RX7, TX7, 10)) rfl rfl o21 cl_X7_sumFor wi_X7_sumFor wl_X7_sumFor km_X7_114 rfl rfl (nle rfl) (nle rfl) (nle rfl) dX7_orderClause_49 hC24 ?_
      have h25 := hC24.1 X
      have o26 := h25.ok o21
      show S0 X _ q22.1 52 [some (.ref (gh (xG X) + a0)), some (.int s3)] [.int q22.2] _
      refine s_ifeq (pc := 52) 66 dX7_orderClause_52 rfl ?_ ?_
      · refine s_iconst (pc := 66) 0 dX7_orderClause_66 kc_0 ?_
        exact s_zret rfl rfl dX7_orderClause_67
      · refine s_iload_n (pc := 55) 1 dX7_orderClause_55 rfl rfl ?_
        refine s_join q22.1 (fun s28 : Mem => s28) 68 (fun s28 : Mem => [some (.ref (gh (xG X) + a0)), none]) (fun s28 : Mem => []) (fun s28 hs29 => ?_) (fun j27 hj30 => ?_)
        · show S0 X _ s28 68 [some (.ref (gh (xG X) + a0)), none] [] _
          have o31 := hs29.ok o26
          refine s_aload_n (pc := 68) 0 dX7_orderClause_68 rfl rfl ?_
          refine s_geti (pc := 69) F_7 8 rfl o31 dX7_orderClause_69 kf_X7_66 ?_
          refine s_sipush (pc := 72) 261 dX7_orderClause_72 ks_261 ?_
          refine s_join s28 (fun s33 : Mem => s33) 127 (fun s33 : Mem => [some (.ref (gh (xG X) + a0)), none]) (fun s33 : Mem => []) (fun s33 hs34 => ?_) (fun j32 hj35 => ?_)
          · show S0 X _ s33 127 [some (.ref (gh (xG X) + a0)), none] [] _
            have o36 := hs34.ok o31
            refine s_aload_n (pc := 127) 0 dX7_orderClause_127 rfl rfl ?_
            refine s_bind (fun q37 hq38 => ?_)
            have hC39 := t_X7_condition (l := xl X) (G := xG X) hq38
            refine s_callV (pc := 128) (As := []) (st := []) (nlt rfl) (q := (RX7, TX7, 10)) rfl rfl o36 cl_X7_condition wi_X7_condition wl_X7_condition km_X7_117 rfl rfl (nle rfl) (nle rfl) (nle rfl) dX7_orderClause_128 hC39 ?_
            have h40 := hC39.1 X
            have o41 := h40.ok o36
            show S0 X _ q37.1 131 [some (.ref (gh (xG X) + a0)), none] [.int q37.2] _
            refine s_grd (fun g42 => ?_)
            exact s_zret rfl g42 dX7_orderClause_131
          · refine s_icne (pc := 75) 127 dX7_orderClause_75 rfl ?_ ?_
            · exact s_drop (hj35 s28 Le.rf) (And.intro rfl trivial)
            · refine s_aload_n (pc := 78) 0 dX7_orderClause_78 rfl rfl ?_
              refine s_bind (fun q43 hq44 => ?_)
              have hC45 := t_X7_next (l := xl X) (G := xG X) hq44
              refine s_callV (pc := 79) (As := []) (st := []) (nlt rfl) (q := (RX7, TX7, 10)) rfl rfl o31 cl_X7_next wi_X7_next wl_X7_next km_X7_79 rfl rfl (nle rfl) (nle rfl) (nle rfl) dX7_orderClause_79 hC45 ?_
              have h46 := hC45.1 X
              have o47 := h46.ok o31
              show S0 X _ q43 82 [some (.ref (gh (xG X) + a0)), none] [] _
              refine s_aload_n (pc := 82) 0 dX7_orderClause_82 rfl rfl ?_
              refine s_geti (pc := 83) F_7 8 rfl o47 dX7_orderClause_83 kf_X7_66 ?_
              refine s_sipush (pc := 86) 1001 dX7_orderClause_86 ks_1001 ?_
              refine s_join q43 (fun s49 : Unit => q43) 102 (fun s49 : Unit => [some (.ref (gh (xG X) + a0)), none]) (fun s49 : Unit => []) (fun s49 hs50 => ?_) (fun j48 hj51 => ?_)
              · show S0 X _ q43 102 [some (.ref (gh (xG X) + a0)), none] [] _
                refine s_aload_n (pc := 102) 0 dX7_orderClause_102 rfl rfl ?_
                refine s_bind (fun q52 hq53 => ?_)
                have hC54 := t_X7_fail (l := xl X) (G := xG X) hq53
                refine s_callV (pc := 103) (As := []) (st := []) (nlt rfl) (q := (RX7, TX7, 10)) rfl rfl o47 cl_X7_fail wi_X7_fail wl_X7_fail km_X7_76 rfl rfl (nle rfl) (nle rfl) (nle rfl) dX7_orderClause_103 hC54 ?_
                have h55 := hC54.1 X
                have o56 := h55.ok o47
                show S0 X _ q52.1 106 [some (.ref (gh (xG X) + a0)), none] [.int q52.2] _
                refine s_grd (fun g57 => ?_)
                exact s_zret rfl g57 dX7_orderClause_106
              · refine s_iclt (pc := 89) 102 dX7_orderClause_89 rfl ?_ ?_
                · exact s_drop (hj51 () Le.rf) (And.intro rfl trivial)
                · refine s_aload_n (pc := 92) 0 dX7_orderClause_92 rfl rfl ?_
                  refine s_geti (pc := 93) F_7 8 rfl o47 dX7_orderClause_93 kf_X7_66 ?_
                  refine s_sipush (pc := 96) 1020 dX7_orderClause_96 ks_1020 ?_
                  refine s_icle (pc := 99) 107 dX7_orderClause_99 rfl ?_ ?_
                  · refine s_aload_n (pc := 107) 0 dX7_orderClause_107 rfl rfl ?_
                    refine s_geto (pc := 108) F_7 3 rfl o47 dX7_orderClause_108 kf_X7_26 ?_
                    refine s_rvB (fun r58 => ?_)
                    refine s_iconst (pc := 111) 1 dX7_orderClause_111 kc_1 ?_
                    refine s_aload_n (pc := 112) 0 dX7_orderClause_112 rfl rfl ?_
                    refine s_geti (pc := 113) F_7 8 rfl o47 dX7_orderClause_113 kf_X7_66 ?_
                    refine s_sipush (pc := 116) 1000 dX7_orderClause_116 ks_1000 ?_
                    refine s_isub (pc := 119) dX7_orderClause_119 ?_
                    refine s_grd (fun o59 => ?_)
                    refine s_bind (fun q60 hq61 => ?_)
                    have hC62 := t_X9_set (l := xl X) (G := xG X) hq61
                    refine s_callV (pc := 120) (As := [.int 1, .int ((mI q43 a0 8) - 1000)]) (st := []) (nlt rfl) (q := (RX9, TX9, 5)) rfl rfl o59 cl_X9_set wi_X9_set wl_X9_set km_X7_123 rfl rfl (nle rfl) (nle rfl) (nle rfl) dX7_orderClause_120 hC62 ?_
                    have h63 := hC62.1 X
                    have o64 := h63.ok o47
                    show S0 X _ q60 123 [some (.ref (gh (xG X) + a0)), none] [] _
                    refine s_aload_n (pc := 123) 0 dX7_orderClause_123 rfl rfl ?_
                    refine s_bind (fun q65 hq66 => ?_)
                    have hC67 := t_X7_next (l := xl X) (G := xG X) hq66
                    refine s_callV (pc := 124) (As := []) (st := []) (nlt rfl) (q := (RX7, TX7, 10)) rfl rfl o64 cl_X7_next wi_X7_next wl_X7_next km_X7_79 rfl rfl (nle rfl) (nle rfl) (nle rfl) dX7_orderClause_124 hC67 ?_
                    have h68 := hC67.1 X
                    have o69 := h68.ok o64
                    show S0 X _ q65 127 [some (.ref (gh (xG X) + a0)), none] [] _
                    exact s_drop (hj35 q65 (h46.tr (h63.tr h68))) (And.intro rfl trivial)
                  · exact s_drop (hj51 () Le.rf) (And.intro rfl trivial)
        · refine s_ifeq (pc := 56) 68 dX7_orderClause_56 rfl ?_ ?_
          · exact s_drop (hj30 q22.1 Le.rf) (And.intro rfl trivial)
          · refine s_aload_n (pc := 59) 0 dX7_orderClause_59 rfl rfl ?_
            refine s_bind (fun q70 hq71 => ?_)
            have hC72 := t_X7_how (l := xl X) (G := xG X) hq71
            refine s_callV (pc := 60) (As := []) (st := []) (nlt rfl) (q := (RX7, TX7, 10)) rfl rfl o26 cl_X7_how wi_X7_how wl_X7_how km_X7_120 rfl rfl (nle rfl) (nle rfl) (nle rfl) dX7_orderClause_60 hC72 ?_
            have h73 := hC72.1 X
            have o74 := h73.ok o26
            show S0 X _ q70.1 63 [some (.ref (gh (xG X) + a0)), some (.int s3)] [.int q70.2] _
            refine s_ifne (pc := 63) 68 dX7_orderClause_63 rfl ?_ ?_
            · exact s_drop (hj30 q70.1 h73) (And.intro rfl trivial)
            · refine s_iconst (pc := 66) 0 dX7_orderClause_66 kc_0 ?_
              exact s_zret rfl rfl dX7_orderClause_67
    · refine s_ifne (pc := 17) 35 dX7_orderClause_17 rfl ?_ ?_
      · exact s_drop (hj9 () Le.rf) (And.intro rfl (And.intro rfl trivial))
      · refine s_aload_n (pc := 20) 0 dX7_orderClause_20 rfl rfl ?_
        refine s_geti (pc := 21) F_7 8 rfl o1 dX7_orderClause_21 kf_X7_66 ?_
        refine s_sipush (pc := 24) 278 dX7_orderClause_24 ks_278 ?_
        refine s_iceq (pc := 27) 35 dX7_orderClause_27 rfl ?_ ?_
        · exact s_drop (hj9 () Le.rf) (And.intro rfl (And.intro rfl trivial))
        · refine s_aload_n (pc := 30) 0 dX7_orderClause_30 rfl rfl ?_
          refine s_bind (fun q75 hq76 => ?_)
          have hC77 := t_X7_fail (l := xl X) (G := xG X) hq76
          refine s_callV (pc := 31) (As := []) (st := []) (nlt rfl) (q := (RX7, TX7, 10)) rfl rfl o1 cl_X7_fail wi_X7_fail wl_X7_fail km_X7_76 rfl rfl (nle rfl) (nle rfl) (nle rfl) dX7_orderClause_31 hC77 ?_
          have h78 := hC77.1 X
          have o79 := h78.ok o1
          show S0 X _ q75.1 34 [some (.ref (gh (xG X) + a0)), some (.int s3)] [.int q75.2] _
          refine s_grd (fun g80 => ?_)
          exact s_zret rfl g80 dX7_orderClause_34
  · refine s_icne (pc := 7) 14 dX7_orderClause_7 rfl ?_ ?_
    · refine s_iconst (pc := 14) 0 dX7_orderClause_14 kc_0 ?_
      exact s_drop (hj5 0 Le.rf) (And.intro rfl trivial)
    · refine s_iconst (pc := 10) 1 dX7_orderClause_10 kc_1 ?_
      refine s_goto (pc := 11) 15 dX7_orderClause_11 rfl ?_
      exact s_drop (hj5 1 Le.rf) (And.intro rfl trivial)
set_option maxRecDepth 100000 in
set_option maxHeartbeats 8000000 in
noncomputable def f_X12_bears (M : Mem) (a0 : Nat) (p1 : Int32) (p2 : Int32) (p3 : Int32) (p4 : Int32) : Option (Mem × Int32) :=
  Option.bind (f_X12_lies p2 0 4) (fun q1 => if q1 = 0 then (some (M, (-1))) else (Option.bind (f_X12_isPlace p3) (fun q4 => if q4 = 0 then (some (M, (-1))) else (bv (fun (s8 : Unit) => grd (okO M 12 a0) (Option.bind (f_X12_isHouse M a0 p1) (fun q12 => if q12 = 0 then (some (M, (-2))) else (Option.bind (mR M a0 3) (fun r15 => grd (okO M 14 r15) (grd (vp_in 54 (mL M r15)) (bv (mI M r15 (54 : Int32).toNatClampNeg : Int32) (fun x18 => Option.bind (f_X12_fact M a0 p1 2) (fun q19 => Option.bind (f_X12_changed M a0 q19 p2 p3 p4 x18) (fun q22 => if q22.2 = (-1) then (some (q22.1, (-3))) else (Option.bind (f_X12_fact q22.1 a0 p1 1) (fun q27 => if q27 ≤ x18 then (Option.bind (mR q22.1 a0 3) (fun r30 => grd (okO q22.1 14 r30) (grd (vp_in 56 (mL q22.1 r30)) (if (mI q22.1 r30 (56 : Int32).toNatClampNeg) = 12 then (some (q22.1, (-5))) else (Option.bind (f_X12_adds q22.1 a0 p1 x18 q22.2) (fun q33 => Option.bind (mR q33 a0 3) (fun r38 => grd (okO q33 14 r38) (grd (vp_in 56 (mL q33 r38)) (some (q33, (mI q33 r38 (56 : Int32).toNatClampNeg) - 1)))))))))) else (some (q22.1, (-3))))))))))))))) (fun j7 => if p2 = 1 then (Option.bind (f_X12_isThing p4) (fun q41 => if q41 = 0 then (some (M, (-1))) else (j7 ()))) else (j7 ()))))))
abbrev Y_X12_bears : Sta := (RX12, "bears", cX12_bears, 7, (some .int), 207)
set_option maxRecDepth 100000 in
set_option maxHeartbeats 8000000 in
theorem t_X12_bears {l : Launch} {G : Gh} {M : Mem} {a0 : Nat} {p1 : Int32} {p2 : Int32} {p3 : Int32} {p4 : Int32} {q : Mem × Int32} (h : f_X12_bears M a0 p1 p2 p3 p4 = some q) : Ctr l G yX12_bears Y_X12_bears M [.ref (gh G + a0), .int p1, .int p2, .int p3, .int p4] q.1 (some (.int q.2)) := by
  refine Ctr.of (Y := Y_X12_bears) (L := [some (.ref (gh G + a0)), some (.int p1), some (.int p2), some (.int p3), some (.int p4), none, none]) (t := Option.bind (f_X12_bears M a0 p1 p2 p3 p4) (fun q => some (q.1, some (.int q.2)))) (by decide) rfl rfl (nle rfl) (Lof_in 2 _ rfl) (fun X hG hl => ?_) (by rw [h]; rfl)
  subst hG
  subst hl
  unfold f_X12_bears
  refine s_iload_n (pc := 0) 2 dX12_bears_0 rfl rfl ?_
  refine s_iconst (pc := 1) 0 dX12_bears_1 kc_0 ?_
  refine s_iconst (pc := 2) 4 dX12_bears_2 kc_4 ?_
  refine s_bind (fun q1 hq2 => ?_)
  have hC3 := t_X12_lies (l := xl X) (G := xG X) (M := M) hq2
  refine s_callS (pc := 3) (As := [.int p2, .int 0, .int 4]) (st := []) cl_X12_lies wt_X12_lies km_X12_123 rfl rfl (nle rfl) (nle rfl) (nle rfl) dX12_bears_3 hC3 ?_
  show S0 X _ M 6 [some (.ref (gh (xG X) + a0)), some (.int p1), some (.int p2), some (.int p3), some (.int p4), none, none] [.int q1] _
  refine s_ifeq (pc := 6) 29 dX12_bears_6 rfl ?_ ?_
  · refine s_iconst (pc := 29) (-1) dX12_bears_29 kc_m1 ?_
    exact s_iret rfl dX12_bears_30
  · refine s_iload_n (pc := 9) 3 dX12_bears_9 rfl rfl ?_
    refine s_bind (fun q4 hq5 => ?_)
    have hC6 := t_X12_isPlace (l := xl X) (G := xG X) (M := M) hq5
    refine s_callS (pc := 10) (As := [.int p3]) (st := []) cl_X12_isPlace wt_X12_isPlace km_X12_205 rfl rfl (nle rfl) (nle rfl) (nle rfl) dX12_bears_10 hC6 ?_
    show S0 X _ M 13 [some (.ref (gh (xG X) + a0)), some (.int p1), some (.int p2), some (.int p3), some (.int p4), none, none] [.int q4] _
    refine s_ifeq (pc := 13) 29 dX12_bears_13 rfl ?_ ?_
    · refine s_iconst (pc := 29) (-1) dX12_bears_29 kc_m1 ?_
      exact s_iret rfl dX12_bears_30
    · refine s_iload_n (pc := 16) 2 dX12_bears_16 rfl rfl ?_
      refine s_iconst (pc := 17) 1 dX12_bears_17 kc_1 ?_
      refine s_join M (fun s8 : Unit => M) 31 (fun s8 : Unit => [some (.ref (gh (xG X) + a0)), some (.int p1), some (.int p2), some (.int p3), some (.int p4), none, none]) (fun s8 : Unit => []) (fun s8 hs9 => ?_) (fun j7 hj10 => ?_)
      · show S0 X _ M 31 [some (.ref (gh (xG X) + a0)), some (.int p1), some (.int p2), some (.int p3), some (.int p4), none, none] [] _
        refine s_aload_n (pc := 31) 0 dX12_bears_31 rfl rfl ?_
        refine s_iload_n (pc := 32) 1 dX12_bears_32 rfl rfl ?_
        refine s_grd (fun o11 => ?_)
        refine s_bind (fun q12 hq13 => ?_)
        have hC14 := t_X12_isHouse (l := xl X) (G := xG X) hq13
        refine s_callV (pc := 33) (As := [.int p1]) (st := []) (nlt rfl) (q := (RX12, TX12, 59)) rfl rfl o11 cl_X12_isHouse wi_X12_isHouse wl_X12_isHouse km_X12_191 rfl rfl (nle rfl) (nle rfl) (nle rfl) dX12_bears_33 hC14 ?_
        show S0 X _ M 36 [some (.ref (gh (xG X) + a0)), some (.int p1), some (.int p2), some (.int p3), some (.int p4), none, none] [.int q12] _
        refine s_ifne (pc := 36) 42 dX12_bears_36 rfl ?_ ?_
        · refine s_aload_n (pc := 42) 0 dX12_bears_42 rfl rfl ?_
          refine s_geto (pc := 43) F_12 3 rfl o11 dX12_bears_43 kf_X12_20 ?_
          refine s_rvB (fun r15 => ?_)
          refine s_bipush (pc := 46) 54 dX12_bears_46 kb_54 ?_
          refine s_grd (fun o16 => ?_)
          refine s_grd (fun i17 => ?_)
          refine s_iald (pc := 48) o16 i17 dX12_bears_48 ?_
          refine s_istore (pc := 49) dX12_bears_49 (nlt rfl) rfl (L' := [some (.ref (gh (xG X) + a0)), some (.int p1), some (.int p2), some (.int p3), some (.int p4), some (.int (mI M r15 (54 : Int32).toNatClampNeg)), none]) rfl ?_
          refine s_bv (fun x18 : Int32 => [some (.ref (gh (xG X) + a0)), some (.int p1), some (.int p2), some (.int p3), some (.int p4), some (.int x18), none]) (fun x18 => ?_) rfl
          refine s_aload_n (pc := 51) 0 dX12_bears_51 rfl rfl ?_
          refine s_aload_n (pc := 52) 0 dX12_bears_52 rfl rfl ?_
          refine s_iload_n (pc := 53) 1 dX12_bears_53 rfl rfl ?_
          refine s_iconst (pc := 54) 2 dX12_bears_54 kc_2 ?_
          refine s_bind (fun q19 hq20 => ?_)
          have hC21 := t_X12_fact (l := xl X) (G := xG X) hq20
          refine s_callV (pc := 55) (As := [.int p1, .int 2]) (st := [.ref (gh (xG X) + a0)]) (nlt rfl) (q := (RX12, TX12, 59)) rfl rfl o11 cl_X12_fact wi_X12_fact wl_X12_fact km_X12_194 rfl rfl (nle rfl) (nle rfl) (nle rfl) dX12_bears_55 hC21 ?_
          show S0 X _ M 58 [some (.ref (gh (xG X) + a0)), some (.int p1), some (.int p2), some (.int p3), some (.int p4), some (.int x18), none] [.int q19, .ref (gh (xG X) + a0)] _
          refine s_iload_n (pc := 58) 2 dX12_bears_58 rfl rfl ?_
          refine s_iload_n (pc := 59) 3 dX12_bears_59 rfl rfl ?_
          refine s_iload (pc := 60) dX12_bears_60 rfl ?_
          refine s_iload (pc := 62) dX12_bears_62 rfl ?_
          refine s_bind (fun q22 hq23 => ?_)
          have hC24 := t_X12_changed (l := xl X) (G := xG X) hq23
          refine s_callV (pc := 64) (As := [.int q19, .int p2, .int p3, .int p4, .int x18]) (st := []) (nlt rfl) (q := (RX12, TX12, 59)) rfl rfl o11 cl_X12_changed wi_X12_changed wl_X12_changed km_X12_177 rfl rfl (nle rfl) (nle rfl) (nle rfl) dX12_bears_64 hC24 ?_
          have h25 := hC24.1 X
          have o26 := h25.ok o11
          show S0 X _ q22.1 67 [some (.ref (gh (xG X) + a0)), some (.int p1), some (.int p2), some (.int p3), some (.int p4), some (.int x18), none] [.int q22.2] _
          refine s_istore (pc := 67) dX12_bears_67 (nlt rfl) rfl (L' := [some (.ref (gh (xG X) + a0)), some (.int p1), some (.int p2), some (.int p3), some (.int p4), some (.int x18), some (.int q22.2)]) rfl ?_
          refine s_iload (pc := 69) dX12_bears_69 rfl ?_
          refine s_iconst (pc := 71) (-1) dX12_bears_71 kc_m1 ?_
          refine s_iceq (pc := 72) 86 dX12_bears_72 rfl ?_ ?_
          · refine s_bipush (pc := 86) (-3) dX12_bears_86 kb_m3 ?_
            exact s_iret rfl dX12_bears_88
          · refine s_iload (pc := 75) dX12_bears_75 rfl ?_
            refine s_aload_n (pc := 77) 0 dX12_bears_77 rfl rfl ?_
            refine s_iload_n (pc := 78) 1 dX12_bears_78 rfl rfl ?_
            refine s_iconst (pc := 79) 1 dX12_bears_79 kc_1 ?_
            refine s_bind (fun q27 hq28 => ?_)
            have hC29 := t_X12_fact (l := xl X) (G := xG X) hq28
            refine s_callV (pc := 80) (As := [.int p1, .int 1]) (st := [.int x18]) (nlt rfl) (q := (RX12, TX12, 59)) rfl rfl o26 cl_X12_fact wi_X12_fact wl_X12_fact km_X12_194 rfl rfl (nle rfl) (nle rfl) (nle rfl) dX12_bears_80 hC29 ?_
            show S0 X _ q22.1 83 [some (.ref (gh (xG X) + a0)), some (.int p1), some (.int p2), some (.int p3), some (.int p4), some (.int x18), some (.int q22.2)] [.int q27, .int x18] _
            refine s_icge (pc := 83) 89 dX12_bears_83 rfl ?_ ?_
            · refine s_aload_n (pc := 89) 0 dX12_bears_89 rfl rfl ?_
              refine s_geto (pc := 90) F_12 3 rfl o26 dX12_bears_90 kf_X12_20 ?_
              refine s_rvB (fun r30 => ?_)
              refine s_bipush (pc := 93) 56 dX12_bears_93 kb_56 ?_
              refine s_grd (fun o31 => ?_)
              refine s_grd (fun i32 => ?_)
              refine s_iald (pc := 95) o31 i32 dX12_bears_95 ?_
              refine s_bipush (pc := 96) 12 dX12_bears_96 kb_12 ?_
              refine s_icne (pc := 98) 104 dX12_bears_98 rfl ?_ ?_
              · refine s_aload_n (pc := 104) 0 dX12_bears_104 rfl rfl ?_
                refine s_iload_n (pc := 105) 1 dX12_bears_105 rfl rfl ?_
                refine s_iload (pc := 106) dX12_bears_106 rfl ?_
                refine s_iload (pc := 108) dX12_bears_108 rfl ?_
                refine s_bind (fun q33 hq34 => ?_)
                have hC35 := t_X12_adds (l := xl X) (G := xG X) hq34
                refine s_callV (pc := 110) (As := [.int p1, .int x18, .int q22.2]) (st := []) (nlt rfl) (q := (RX12, TX12, 59)) rfl rfl o26 cl_X12_adds wi_X12_adds wl_X12_adds km_X12_201 rfl rfl (nle rfl) (nle rfl) (nle rfl) dX12_bears_110 hC35 ?_
                have h36 := hC35.1 X
                have o37 := h36.ok o26
                show S0 X _ q33 113 [some (.ref (gh (xG X) + a0)), some (.int p1), some (.int p2), some (.int p3), some (.int p4), some (.int x18), some (.int q22.2)] [] _
                refine s_aload_n (pc := 113) 0 dX12_bears_113 rfl rfl ?_
                refine s_geto (pc := 114) F_12 3 rfl o37 dX12_bears_114 kf_X12_20 ?_
                refine s_rvB (fun r38 => ?_)
                refine s_bipush (pc := 117) 56 dX12_bears_117 kb_56 ?_
                refine s_grd (fun o39 => ?_)
                refine s_grd (fun i40 => ?_)
                refine s_iald (pc := 119) o39 i40 dX12_bears_119 ?_
                refine s_iconst (pc := 120) 1 dX12_bears_120 kc_1 ?_
                refine s_isub (pc := 121) dX12_bears_121 ?_
                exact s_iret rfl dX12_bears_122
              · refine s_bipush (pc := 101) (-5) dX12_bears_101 kb_m5 ?_
                exact s_iret rfl dX12_bears_103
            · refine s_bipush (pc := 86) (-3) dX12_bears_86 kb_m3 ?_
              exact s_iret rfl dX12_bears_88
        · refine s_bipush (pc := 39) (-2) dX12_bears_39 kb_m2 ?_
          exact s_iret rfl dX12_bears_41
      · refine s_icne (pc := 18) 31 dX12_bears_18 rfl ?_ ?_
        · exact s_drop (hj10 () Le.rf) (And.intro rfl (And.intro rfl (And.intro rfl (And.intro rfl (And.intro rfl trivial)))))
        · refine s_iload (pc := 21) dX12_bears_21 rfl ?_
          refine s_bind (fun q41 hq42 => ?_)
          have hC43 := t_X12_isThing (l := xl X) (G := xG X) (M := M) hq42
          refine s_callS (pc := 23) (As := [.int p4]) (st := []) cl_X12_isThing wt_X12_isThing km_X12_134 rfl rfl (nle rfl) (nle rfl) (nle rfl) dX12_bears_23 hC43 ?_
          show S0 X _ M 26 [some (.ref (gh (xG X) + a0)), some (.int p1), some (.int p2), some (.int p3), some (.int p4), none, none] [.int q41] _
          refine s_ifne (pc := 26) 31 dX12_bears_26 rfl ?_ ?_
          · exact s_drop (hj10 () Le.rf) (And.intro rfl (And.intro rfl (And.intro rfl (And.intro rfl (And.intro rfl trivial)))))
          · refine s_iconst (pc := 29) (-1) dX12_bears_29 kc_m1 ?_
            exact s_iret rfl dX12_bears_30
set_option maxRecDepth 100000 in
set_option maxHeartbeats 8000000 in
noncomputable def f_X12_change (M : Mem) (a0 : Nat) (p1 : Int32) (p2 : Int32) (p3 : Int32) (p4 : Int32) (p5 : Int32) : Option (Mem × Int32) :=
  Option.bind (f_X12_isDish p1) (fun q1 => if q1 = 0 then (some (M, (-1))) else (Option.bind (f_X12_lies p2 0 4) (fun q4 => if q4 = 0 then (some (M, (-1))) else (bv (fun (s8 : Unit) => Option.bind (f_X12_lies p5 0 1) (fun q11 => if q11 = 0 then (some (M, (-1))) else (grd (okO M 12 a0) (Option.bind (mR M a0 3) (fun r15 => grd (okO M 14 r15) (grd (vp_in 54 (mL M r15)) (Option.bind (f_X12_changed M a0 p1 p2 p3 p4 (mI M r15 (54 : Int32).toNatClampNeg)) (fun q18 => if q18.2 = (-1) then (some (q18.1, (-1))) else (if p5 = 0 then (some (q18.1, q18.2)) else (Option.bind (mR q18.1 a0 3) (fun r23 => grd (okO q18.1 14 r23) (grd (vp_in 54 (mL q18.1 r23)) (Option.bind (f_X12_weighs q18.1 a0 p1 p2 p3 (mI q18.1 r23 (54 : Int32).toNatClampNeg)) (fun q26 => some (q26.1, q26.2))))))))))))))) (fun j7 => if p2 = 1 then (Option.bind (f_X12_isThing p4) (fun q31 => if q31 = 0 then (some (M, (-1))) else (j7 ()))) else (j7 ()))))))
abbrev Y_X12_change : Sta := (RX12, "change", cX12_change, 7, (some .int), 207)
set_option maxRecDepth 100000 in
set_option maxHeartbeats 8000000 in
theorem t_X12_change {l : Launch} {G : Gh} {M : Mem} {a0 : Nat} {p1 : Int32} {p2 : Int32} {p3 : Int32} {p4 : Int32} {p5 : Int32} {q : Mem × Int32} (h : f_X12_change M a0 p1 p2 p3 p4 p5 = some q) : Ctr l G yX12_change Y_X12_change M [.ref (gh G + a0), .int p1, .int p2, .int p3, .int p4, .int p5] q.1 (some (.int q.2)) := by
  refine Ctr.of (Y := Y_X12_change) (L := [some (.ref (gh G + a0)), some (.int p1), some (.int p2), some (.int p3), some (.int p4), some (.int p5), none]) (t := Option.bind (f_X12_change M a0 p1 p2 p3 p4 p5) (fun q => some (q.1, some (.int q.2)))) (by decide) rfl rfl (nle rfl) (Lof_in 1 _ rfl) (fun X hG hl => ?_) (by rw [h]; rfl)
  subst hG
  subst hl
  unfold f_X12_change
  refine s_iload_n (pc := 0) 1 dX12_change_0 rfl rfl ?_
  refine s_bind (fun q1 hq2 => ?_)
  have hC3 := t_X12_isDish (l := xl X) (G := xG X) (M := M) hq2
  refine s_callS (pc := 1) (As := [.int p1]) (st := []) cl_X12_isDish wt_X12_isDish km_X12_184 rfl rfl (nle rfl) (nle rfl) (nle rfl) dX12_change_1 hC3 ?_
  show S0 X _ M 4 [some (.ref (gh (xG X) + a0)), some (.int p1), some (.int p2), some (.int p3), some (.int p4), some (.int p5), none] [.int q1] _
  refine s_ifeq (pc := 4) 39 dX12_change_4 rfl ?_ ?_
  · refine s_iconst (pc := 39) (-1) dX12_change_39 kc_m1 ?_
    exact s_iret rfl dX12_change_40
  · refine s_iload_n (pc := 7) 2 dX12_change_7 rfl rfl ?_
    refine s_iconst (pc := 8) 0 dX12_change_8 kc_0 ?_
    refine s_iconst (pc := 9) 4 dX12_change_9 kc_4 ?_
    refine s_bind (fun q4 hq5 => ?_)
    have hC6 := t_X12_lies (l := xl X) (G := xG X) (M := M) hq5
    refine s_callS (pc := 10) (As := [.int p2, .int 0, .int 4]) (st := []) cl_X12_lies wt_X12_lies km_X12_123 rfl rfl (nle rfl) (nle rfl) (nle rfl) dX12_change_10 hC6 ?_
    show S0 X _ M 13 [some (.ref (gh (xG X) + a0)), some (.int p1), some (.int p2), some (.int p3), some (.int p4), some (.int p5), none] [.int q4] _
    refine s_ifeq (pc := 13) 39 dX12_change_13 rfl ?_ ?_
    · refine s_iconst (pc := 39) (-1) dX12_change_39 kc_m1 ?_
      exact s_iret rfl dX12_change_40
    · refine s_iload_n (pc := 16) 2 dX12_change_16 rfl rfl ?_
      refine s_iconst (pc := 17) 1 dX12_change_17 kc_1 ?_
      refine s_join M (fun s8 : Unit => M) 29 (fun s8 : Unit => [some (.ref (gh (xG X) + a0)), some (.int p1), some (.int p2), some (.int p3), some (.int p4), some (.int p5), none]) (fun s8 : Unit => []) (fun s8 hs9 => ?_) (fun j7 hj10 => ?_)
      · show S0 X _ M 29 [some (.ref (gh (xG X) + a0)), some (.int p1), some (.int p2), some (.int p3), some (.int p4), some (.int p5), none] [] _
        refine s_iload (pc := 29) dX12_change_29 rfl ?_
        refine s_iconst (pc := 31) 0 dX12_change_31 kc_0 ?_
        refine s_iconst (pc := 32) 1 dX12_change_32 kc_1 ?_
        refine s_bind (fun q11 hq12 => ?_)
        have hC13 := t_X12_lies (l := xl X) (G := xG X) (M := M) hq12
        refine s_callS (pc := 33) (As := [.int p5, .int 0, .int 1]) (st := []) cl_X12_lies wt_X12_lies km_X12_123 rfl rfl (nle rfl) (nle rfl) (nle rfl) dX12_change_33 hC13 ?_
        show S0 X _ M 36 [some (.ref (gh (xG X) + a0)), some (.int p1), some (.int p2), some (.int p3), some (.int p4), some (.int p5), none] [.int q11] _
        refine s_ifne (pc := 36) 41 dX12_change_36 rfl ?_ ?_
        · refine s_aload_n (pc := 41) 0 dX12_change_41 rfl rfl ?_
          refine s_iload_n (pc := 42) 1 dX12_change_42 rfl rfl ?_
          refine s_iload_n (pc := 43) 2 dX12_change_43 rfl rfl ?_
          refine s_iload_n (pc := 44) 3 dX12_change_44 rfl rfl ?_
          refine s_iload (pc := 45) dX12_change_45 rfl ?_
          refine s_aload_n (pc := 47) 0 dX12_change_47 rfl rfl ?_
          refine s_grd (fun o14 => ?_)
          refine s_geto (pc := 48) F_12 3 rfl o14 dX12_change_48 kf_X12_20 ?_
          refine s_rvB (fun r15 => ?_)
          refine s_bipush (pc := 51) 54 dX12_change_51 kb_54 ?_
          refine s_grd (fun o16 => ?_)
          refine s_grd (fun i17 => ?_)
          refine s_iald (pc := 53) o16 i17 dX12_change_53 ?_
          refine s_bind (fun q18 hq19 => ?_)
          have hC20 := t_X12_changed (l := xl X) (G := xG X) hq19
          refine s_callV (pc := 54) (As := [.int p1, .int p2, .int p3, .int p4, .int (mI M r15 (54 : Int32).toNatClampNeg)]) (st := []) (nlt rfl) (q := (RX12, TX12, 59)) rfl rfl o14 cl_X12_changed wi_X12_changed wl_X12_changed km_X12_177 rfl rfl (nle rfl) (nle rfl) (nle rfl) dX12_change_54 hC20 ?_
          have h21 := hC20.1 X
          have o22 := h21.ok o14
          show S0 X _ q18.1 57 [some (.ref (gh (xG X) + a0)), some (.int p1), some (.int p2), some (.int p3), some (.int p4), some (.int p5), none] [.int q18.2] _
          refine s_istore (pc := 57) dX12_change_57 (nlt rfl) rfl (L' := [some (.ref (gh (xG X) + a0)), some (.int p1), some (.int p2), some (.int p3), some (.int p4), some (.int p5), some (.int q18.2)]) rfl ?_
          refine s_iload (pc := 59) dX12_change_59 rfl ?_
          refine s_iconst (pc := 61) (-1) dX12_change_61 kc_m1 ?_
          refine s_icne (pc := 62) 69 dX12_change_62 rfl ?_ ?_
          · refine s_iload (pc := 69) dX12_change_69 rfl ?_
            refine s_ifne (pc := 71) 79 dX12_change_71 rfl ?_ ?_
            · refine s_aload_n (pc := 79) 0 dX12_change_79 rfl rfl ?_
              refine s_iload_n (pc := 80) 1 dX12_change_80 rfl rfl ?_
              refine s_iload_n (pc := 81) 2 dX12_change_81 rfl rfl ?_
              refine s_iload_n (pc := 82) 3 dX12_change_82 rfl rfl ?_
              refine s_aload_n (pc := 83) 0 dX12_change_83 rfl rfl ?_
              refine s_geto (pc := 84) F_12 3 rfl o22 dX12_change_84 kf_X12_20 ?_
              refine s_rvB (fun r23 => ?_)
              refine s_bipush (pc := 87) 54 dX12_change_87 kb_54 ?_
              refine s_grd (fun o24 => ?_)
              refine s_grd (fun i25 => ?_)
              refine s_iald (pc := 89) o24 i25 dX12_change_89 ?_
              refine s_bind (fun q26 hq27 => ?_)
              have hC28 := t_X12_weighs (l := xl X) (G := xG X) hq27
              refine s_callV (pc := 90) (As := [.int p1, .int p2, .int p3, .int (mI q18.1 r23 (54 : Int32).toNatClampNeg)]) (st := []) (nlt rfl) (q := (RX12, TX12, 59)) rfl rfl o22 cl_X12_weighs wi_X12_weighs wl_X12_weighs km_X12_181 rfl rfl (nle rfl) (nle rfl) (nle rfl) dX12_change_90 hC28 ?_
              have h29 := hC28.1 X
              have o30 := h29.ok o22
              show S0 X _ q26.1 93 [some (.ref (gh (xG X) + a0)), some (.int p1), some (.int p2), some (.int p3), some (.int p4), some (.int p5), some (.int q18.2)] [.int q26.2] _
              exact s_iret rfl dX12_change_93
            · refine s_iload (pc := 74) dX12_change_74 rfl ?_
              refine s_goto (pc := 76) 93 dX12_change_76 rfl ?_
              exact s_iret rfl dX12_change_93
          · refine s_iconst (pc := 65) (-1) dX12_change_65 kc_m1 ?_
            refine s_goto (pc := 66) 93 dX12_change_66 rfl ?_
            exact s_iret rfl dX12_change_93
        · refine s_iconst (pc := 39) (-1) dX12_change_39 kc_m1 ?_
          exact s_iret rfl dX12_change_40
      · refine s_icne (pc := 18) 29 dX12_change_18 rfl ?_ ?_
        · exact s_drop (hj10 () Le.rf) (And.intro rfl (And.intro rfl (And.intro rfl (And.intro rfl (And.intro rfl (And.intro rfl trivial))))))
        · refine s_iload (pc := 21) dX12_change_21 rfl ?_
          refine s_bind (fun q31 hq32 => ?_)
          have hC33 := t_X12_isThing (l := xl X) (G := xG X) (M := M) hq32
          refine s_callS (pc := 23) (As := [.int p4]) (st := []) cl_X12_isThing wt_X12_isThing km_X12_134 rfl rfl (nle rfl) (nle rfl) (nle rfl) dX12_change_23 hC33 ?_
          show S0 X _ M 26 [some (.ref (gh (xG X) + a0)), some (.int p1), some (.int p2), some (.int p3), some (.int p4), some (.int p5), none] [.int q31] _
          refine s_ifeq (pc := 26) 39 dX12_change_26 rfl ?_ ?_
          · refine s_iconst (pc := 39) (-1) dX12_change_39 kc_m1 ?_
            exact s_iret rfl dX12_change_40
          · exact s_drop (hj10 () Le.rf) (And.intro rfl (And.intro rfl (And.intro rfl (And.intro rfl (And.intro rfl (And.intro rfl trivial))))))
set_option maxRecDepth 100000 in
set_option maxHeartbeats 8000000 in
noncomputable def f_X12_lists (M : Mem) (a0 : Nat) (p1 : Int32) (p2 : Int32) (p3 : Int32) : Option Mem :=
  grd (okO M 12 a0) (bv (wI M a0 11 0) (fun M2 => Option.bind (f_X12_longOf p1) (fun q6 => Option.bind (loopO (σ := Mem × Int32) (ρ := Mem) (fun s9 => if 5 ≤ s9.2 then (some (.inr s9.1)) else (Option.bind (loopO (σ := Mem × Int32) (ρ := Mem) (fun s18 => if q6 < s18.2 then (some (.inr s18.1)) else (Option.bind (loopO (σ := Mem × Int32) (ρ := Mem) (fun s27 => bv (fun (s37 : Int32) => if s37 ≤ s27.2 then (some (.inr s27.1)) else (Option.bind (f_X12_changed s27.1 a0 p1 s9.2 s18.2 s27.2 p2) (fun q40 => bv (fun (s46 : Mem) => bv (s27.2 + 1 : Int32) (fun x50 => some (.inl (s46, x50)))) (fun j45 => if q40.2 = (-1) then (j45 q40.1) else (Option.bind (mR q40.1 a0 9) (fun r51 => grd (okO q40.1 14 r51) (grd (vp_in (mI q40.1 a0 11) (mL q40.1 r51)) (bv (wI q40.1 r51 (mI q40.1 a0 11).toNatClampNeg q40.2) (fun M54 => Option.bind (mR M54 a0 10) (fun r58 => bv (fun (s60 : Mem × Int32) => grd (okO s60.1 14 r58) (grd (vp_in (mI M54 a0 11) (mL s60.1 r58)) (bv (wI s60.1 r58 (mI M54 a0 11).toNatClampNeg s60.2) (fun M66 => bv (wI M66 a0 11 ((mI M66 a0 11) + 1)) (fun M70 => j45 M70))))) (fun j59 => if p3 = 0 then (j59 (M54, 0)) else (Option.bind (f_X12_weighs M54 a0 p1 s9.2 s18.2 p2) (fun q74 => j59 (q74.1, q74.2)))))))))))))) (fun j36 => if s9.2 = 1 then (j36 6) else (j36 1))) (s18.1, 0)) (fun (x34 : Mem) => bv (s18.2 + 1 : Int32) (fun x80 => some (.inl (x34, x80)))))) (s9.1, 0)) (fun (x25 : Mem) => bv (s9.2 + 1 : Int32) (fun x82 => some (.inl (x25, x82)))))) (M2, 0)) (fun (x16 : Mem) => some x16))))
abbrev Y_X12_lists : Sta := (RX12, "lists", cX12_lists, 9, none, 207)
set_option maxRecDepth 100000 in
set_option maxHeartbeats 8000000 in
theorem t_X12_lists {l : Launch} {G : Gh} {M : Mem} {a0 : Nat} {p1 : Int32} {p2 : Int32} {p3 : Int32} {q : Mem} (h : f_X12_lists M a0 p1 p2 p3 = some q) : Ctr l G yX12_lists Y_X12_lists M [.ref (gh G + a0), .int p1, .int p2, .int p3] q (none) := by
  refine Ctr.of (Y := Y_X12_lists) (L := [some (.ref (gh G + a0)), some (.int p1), some (.int p2), some (.int p3), none, none, none, none, none]) (t := Option.bind (f_X12_lists M a0 p1 p2 p3) (fun q => some (q, (none : Option Value)))) (by decide) rfl rfl (nle rfl) (Lof_in 5 _ rfl) (fun X hG hl => ?_) (by rw [h]; rfl)
  subst hG
  subst hl
  unfold f_X12_lists
  refine s_aload_n (pc := 0) 0 dX12_lists_0 rfl rfl ?_
  refine s_iconst (pc := 1) 0 dX12_lists_1 kc_0 ?_
  refine s_grd (fun o1 => ?_)
  refine s_puti (pc := 2) F_12 11 rfl o1 rfl rfl rfl dX12_lists_2 kf_X12_174 (fun M2 hM3 => ?_)
  have h4 := le_wI hM3
  have o5 := h4.ok o1
  refine s_iload_n (pc := 5) 1 dX12_lists_5 rfl rfl ?_
  refine s_bind (fun q6 hq7 => ?_)
  have hC8 := t_X12_longOf (l := xl X) (G := xG X) (M := M2) hq7
  refine s_callS (pc := 6) (As := [.int p1]) (st := []) cl_X12_longOf wt_X12_longOf km_X12_156 rfl rfl (nle rfl) (nle rfl) (nle rfl) dX12_lists_6 hC8 ?_
  show S0 X _ M2 9 [some (.ref (gh (xG X) + a0)), some (.int p1), some (.int p2), some (.int p3), none, none, none, none, none] [.int q6] _
  refine s_istore (pc := 9) dX12_lists_9 (nlt rfl) rfl (L' := [some (.ref (gh (xG X) + a0)), some (.int p1), some (.int p2), some (.int p3), some (.int q6), none, none, none, none]) rfl ?_
  refine s_iconst (pc := 11) 0 dX12_lists_11 kc_0 ?_
  refine s_istore (pc := 12) dX12_lists_12 (nlt rfl) rfl (L' := [some (.ref (gh (xG X) + a0)), some (.int p1), some (.int p2), some (.int p3), some (.int q6), some (.int 0), none, none, none]) rfl ?_
  refine s_drop (L' := [some (.ref (gh (xG X) + a0)), some (.int p1), some (.int p2), some (.int p3), some (.int q6), some (.int 0), none, none, none]) ?_ (And.intro rfl (And.intro rfl (And.intro rfl (And.intro rfl (And.intro rfl (And.intro rfl trivial))))))
  refine s_loop1 M2 (fun s9 : Mem × Int32 => s9.1) (fun s9 : Mem × Int32 => [some (.ref (gh (xG X) + a0)), some (.int p1), some (.int p2), some (.int p3), some (.int q6), some (.int s9.2), none, none, none]) (fun x16 : Mem => x16) 139 (fun x16 : Mem => [none, none, none, none, none, none, none, none, none]) (fun x16 hx17 => ?_) (fun T11 R13 hT12 hR14 s9 hs10 => ?_) (M2, 0) Le.rf
  · show S0 X _ x16 139 [none, none, none, none, none, none, none, none, none] [] _
    exact s_vret rfl dX12_lists_139
  · show S0 X _ s9.1 14 [some (.ref (gh (xG X) + a0)), some (.int p1), some (.int p2), some (.int p3), some (.int q6), some (.int s9.2), none, none, none] [] _
    have o15 := hs10.ok o5
    refine s_iload (pc := 14) dX12_lists_14 rfl ?_
    refine s_iconst (pc := 16) 5 dX12_lists_16 kc_5 ?_
    refine s_icge (pc := 17) 139 dX12_lists_17 rfl ?_ ?_
    · exact s_drop (hR14 s9.1 hs10) trivial
    · refine s_iconst (pc := 20) 0 dX12_lists_20 kc_0 ?_
      refine s_istore (pc := 21) dX12_lists_21 (nlt rfl) rfl (L' := [some (.ref (gh (xG X) + a0)), some (.int p1), some (.int p2), some (.int p3), some (.int q6), some (.int s9.2), some (.int 0), none, none]) rfl ?_
      refine s_drop (L' := [some (.ref (gh (xG X) + a0)), some (.int p1), some (.int p2), some (.int p3), some (.int q6), some (.int s9.2), some (.int 0), none, none]) ?_ (And.intro rfl (And.intro rfl (And.intro rfl (And.intro rfl (And.intro rfl (And.intro rfl (And.intro rfl trivial)))))))
      refine s_loop1 s9.1 (fun s18 : Mem × Int32 => s18.1) (fun s18 : Mem × Int32 => [some (.ref (gh (xG X) + a0)), some (.int p1), some (.int p2), some (.int p3), some (.int q6), some (.int s9.2), some (.int s18.2), none, none]) (fun x25 : Mem => x25) 133 (fun x25 : Mem => [some (.ref (gh (xG X) + a0)), some (.int p1), some (.int p2), some (.int p3), some (.int q6), some (.int s9.2), none, none, none]) (fun x25 hx26 => ?_) (fun T20 R22 hT21 hR23 s18 hs19 => ?_) (s9.1, 0) Le.rf
      · show S0 X _ x25 133 [some (.ref (gh (xG X) + a0)), some (.int p1), some (.int p2), some (.int p3), some (.int q6), some (.int s9.2), none, none, none] [] _
        have o81 := hx26.ok o15
        refine s_iinc (pc := 133) dX12_lists_133 rfl (v := s9.2 + 1) (congrArg (fun z : Int32 => s9.2 + z) kc_1) (nlt rfl) rfl (L' := [some (.ref (gh (xG X) + a0)), some (.int p1), some (.int p2), some (.int p3), some (.int q6), some (.int (s9.2 + 1)), none, none, none]) rfl ?_
        refine s_bv (fun x82 : Int32 => [some (.ref (gh (xG X) + a0)), some (.int p1), some (.int p2), some (.int p3), some (.int q6), some (.int x82), none, none, none]) (fun x82 => ?_) rfl
        refine s_goto (pc := 136) 14 dX12_lists_136 rfl ?_
        exact s_drop (hT12 (x25, x82) (hs10.tr hx26)) (And.intro rfl (And.intro rfl (And.intro rfl (And.intro rfl (And.intro rfl (And.intro rfl trivial))))))
      · show S0 X _ s18.1 23 [some (.ref (gh (xG X) + a0)), some (.int p1), some (.int p2), some (.int p3), some (.int q6), some (.int s9.2), some (.int s18.2), none, none] [] _
        have o24 := hs19.ok o15
        refine s_iload (pc := 23) dX12_lists_23 rfl ?_
        refine s_iload (pc := 25) dX12_lists_25 rfl ?_
        refine s_icgt (pc := 27) 133 dX12_lists_27 rfl ?_ ?_
        · exact s_drop (hR23 s18.1 hs19) (And.intro rfl (And.intro rfl (And.intro rfl (And.intro rfl (And.intro rfl (And.intro rfl trivial))))))
        · refine s_iconst (pc := 30) 0 dX12_lists_30 kc_0 ?_
          refine s_istore (pc := 31) dX12_lists_31 (nlt rfl) rfl (L' := [some (.ref (gh (xG X) + a0)), some (.int p1), some (.int p2), some (.int p3), some (.int q6), some (.int s9.2), some (.int s18.2), some (.int 0), none]) rfl ?_
          refine s_drop (L' := [some (.ref (gh (xG X) + a0)), some (.int p1), some (.int p2), some (.int p3), some (.int q6), some (.int s9.2), some (.int s18.2), some (.int 0), none]) ?_ (And.intro rfl (And.intro rfl (And.intro rfl (And.intro rfl (And.intro rfl (And.intro rfl (And.intro rfl (And.intro rfl trivial))))))))
          refine s_loop1 s18.1 (fun s27 : Mem × Int32 => s27.1) (fun s27 : Mem × Int32 => [some (.ref (gh (xG X) + a0)), some (.int p1), some (.int p2), some (.int p3), some (.int q6), some (.int s9.2), some (.int s18.2), some (.int s27.2), none]) (fun x34 : Mem => x34) 127 (fun x34 : Mem => [some (.ref (gh (xG X) + a0)), some (.int p1), some (.int p2), some (.int p3), some (.int q6), some (.int s9.2), some (.int s18.2), none, none]) (fun x34 hx35 => ?_) (fun T29 R31 hT30 hR32 s27 hs28 => ?_) (s18.1, 0) Le.rf
          · show S0 X _ x34 127 [some (.ref (gh (xG X) + a0)), some (.int p1), some (.int p2), some (.int p3), some (.int q6), some (.int s9.2), some (.int s18.2), none, none] [] _
            have o79 := hx35.ok o24
            refine s_iinc (pc := 127) dX12_lists_127 rfl (v := s18.2 + 1) (congrArg (fun z : Int32 => s18.2 + z) kc_1) (nlt rfl) rfl (L' := [some (.ref (gh (xG X) + a0)), some (.int p1), some (.int p2), some (.int p3), some (.int q6), some (.int s9.2), some (.int (s18.2 + 1)), none, none]) rfl ?_
            refine s_bv (fun x80 : Int32 => [some (.ref (gh (xG X) + a0)), some (.int p1), some (.int p2), some (.int p3), some (.int q6), some (.int s9.2), some (.int x80), none, none]) (fun x80 => ?_) rfl
            refine s_goto (pc := 130) 23 dX12_lists_130 rfl ?_
            exact s_drop (hT21 (x34, x80) (hs19.tr hx35)) (And.intro rfl (And.intro rfl (And.intro rfl (And.intro rfl (And.intro rfl (And.intro rfl (And.intro rfl trivial)))))))
          · show S0 X _ s27.1 33 [some (.ref (gh (xG X) + a0)), some (.int p1), some (.int p2), some (.int p3), some (.int q6), some (.int s9.2), some (.int s18.2), some (.int s27.2), none] [] _
            have o33 := hs28.ok o24
            refine s_iload (pc := 33) dX12_lists_33 rfl ?_
            refine s_iload (pc := 35) dX12_lists_35 rfl ?_
            refine s_iconst (pc := 37) 1 dX12_lists_37 kc_1 ?_
            refine s_join s27.1 (fun s37 : Int32 => s27.1) 47 (fun s37 : Int32 => [some (.ref (gh (xG X) + a0)), some (.int p1), some (.int p2), some (.int p3), some (.int q6), some (.int s9.2), some (.int s18.2), some (.int s27.2), none]) (fun s37 : Int32 => [.int s37, .int s27.2]) (fun s37 hs38 => ?_) (fun j36 hj39 => ?_)
            · show S0 X _ s27.1 47 [some (.ref (gh (xG X) + a0)), some (.int p1), some (.int p2), some (.int p3), some (.int q6), some (.int s9.2), some (.int s18.2), some (.int s27.2), none] [.int s37, .int s27.2] _
              refine s_icge (pc := 47) 127 dX12_lists_47 rfl ?_ ?_
              · exact s_drop (hR32 s27.1 hs28) (And.intro rfl (And.intro rfl (And.intro rfl (And.intro rfl (And.intro rfl (And.intro rfl (And.intro rfl trivial)))))))
              · refine s_aload_n (pc := 50) 0 dX12_lists_50 rfl rfl ?_
                refine s_iload_n (pc := 51) 1 dX12_lists_51 rfl rfl ?_
                refine s_iload (pc := 52) dX12_lists_52 rfl ?_
                refine s_iload (pc := 54) dX12_lists_54 rfl ?_
                refine s_iload (pc := 56) dX12_lists_56 rfl ?_
                refine s_iload_n (pc := 58) 2 dX12_lists_58 rfl rfl ?_
                refine s_bind (fun q40 hq41 => ?_)
                have hC42 := t_X12_changed (l := xl X) (G := xG X) hq41
                refine s_callV (pc := 59) (As := [.int p1, .int s9.2, .int s18.2, .int s27.2, .int p2]) (st := []) (nlt rfl) (q := (RX12, TX12, 59)) rfl rfl o33 cl_X12_changed wi_X12_changed wl_X12_changed km_X12_177 rfl rfl (nle rfl) (nle rfl) (nle rfl) dX12_lists_59 hC42 ?_
                have h43 := hC42.1 X
                have o44 := h43.ok o33
                show S0 X _ q40.1 62 [some (.ref (gh (xG X) + a0)), some (.int p1), some (.int p2), some (.int p3), some (.int q6), some (.int s9.2), some (.int s18.2), some (.int s27.2), none] [.int q40.2] _
                refine s_istore (pc := 62) dX12_lists_62 (nlt rfl) rfl (L' := [some (.ref (gh (xG X) + a0)), some (.int p1), some (.int p2), some (.int p3), some (.int q6), some (.int s9.2), some (.int s18.2), some (.int s27.2), some (.int q40.2)]) rfl ?_
                refine s_iload (pc := 64) dX12_lists_64 rfl ?_
                refine s_iconst (pc := 66) (-1) dX12_lists_66 kc_m1 ?_
                refine s_join q40.1 (fun s46 : Mem => s46) 121 (fun s46 : Mem => [some (.ref (gh (xG X) + a0)), some (.int p1), some (.int p2), some (.int p3), some (.int q6), some (.int s9.2), some (.int s18.2), some (.int s27.2), none]) (fun s46 : Mem => []) (fun s46 hs47 => ?_) (fun j45 hj48 => ?_)
                · show S0 X _ s46 121 [some (.ref (gh (xG X) + a0)), some (.int p1), some (.int p2), some (.int p3), some (.int q6), some (.int s9.2), some (.int s18.2), some (.int s27.2), none] [] _
                  have o49 := hs47.ok o44
                  refine s_iinc (pc := 121) dX12_lists_121 rfl (v := s27.2 + 1) (congrArg (fun z : Int32 => s27.2 + z) kc_1) (nlt rfl) rfl (L' := [some (.ref (gh (xG X) + a0)), some (.int p1), some (.int p2), some (.int p3), some (.int q6), some (.int s9.2), some (.int s18.2), some (.int (s27.2 + 1)), none]) rfl ?_
                  refine s_bv (fun x50 : Int32 => [some (.ref (gh (xG X) + a0)), some (.int p1), some (.int p2), some (.int p3), some (.int q6), some (.int s9.2), some (.int s18.2), some (.int x50), none]) (fun x50 => ?_) rfl
                  refine s_goto (pc := 124) 33 dX12_lists_124 rfl ?_
                  exact s_drop (hT30 (s46, x50) (hs28.tr (h43.tr hs47))) (And.intro rfl (And.intro rfl (And.intro rfl (And.intro rfl (And.intro rfl (And.intro rfl (And.intro rfl (And.intro rfl trivial))))))))
                · refine s_icne (pc := 67) 73 dX12_lists_67 rfl ?_ ?_
                  · refine s_aload_n (pc := 73) 0 dX12_lists_73 rfl rfl ?_
                    refine s_geto (pc := 74) F_12 9 rfl o44 dX12_lists_74 kf_X12_33 ?_
                    refine s_rvB (fun r51 => ?_)
                    refine s_aload_n (pc := 77) 0 dX12_lists_77 rfl rfl ?_
                    refine s_geti (pc := 78) F_12 11 rfl o44 dX12_lists_78 kf_X12_174 ?_
                    refine s_iload (pc := 81) dX12_lists_81 rfl ?_
                    refine s_grd (fun o52 => ?_)
                    refine s_grd (fun i53 => ?_)
                    refine s_iast (pc := 83) o52 i53 dX12_lists_83 (fun M54 hM55 => ?_)
                    have h56 := le_wI hM55
                    have o57 := h56.ok o44
                    refine s_aload_n (pc := 84) 0 dX12_lists_84 rfl rfl ?_
                    refine s_geto (pc := 85) F_12 10 rfl o57 dX12_lists_85 kf_X12_36 ?_
                    refine s_rvB (fun r58 => ?_)
                    refine s_aload_n (pc := 88) 0 dX12_lists_88 rfl rfl ?_
                    refine s_geti (pc := 89) F_12 11 rfl o57 dX12_lists_89 kf_X12_174 ?_
                    refine s_iload_n (pc := 92) 3 dX12_lists_92 rfl rfl ?_
                    refine s_join M54 (fun s60 : Mem × Int32 => s60.1) 110 (fun s60 : Mem × Int32 => [some (.ref (gh (xG X) + a0)), some (.int p1), some (.int p2), some (.int p3), some (.int q6), some (.int s9.2), some (.int s18.2), some (.int s27.2), none]) (fun s60 : Mem × Int32 => [.int s60.2, .int (mI M54 a0 11), .ref (gh (xG X) + r58)]) (fun s60 hs61 => ?_) (fun j59 hj62 => ?_)
                    · show S0 X _ s60.1 110 [some (.ref (gh (xG X) + a0)), some (.int p1), some (.int p2), some (.int p3), some (.int q6), some (.int s9.2), some (.int s18.2), some (.int s27.2), none] [.int s60.2, .int (mI M54 a0 11), .ref (gh (xG X) + r58)] _
                      have o63 := hs61.ok o57
                      refine s_grd (fun o64 => ?_)
                      refine s_grd (fun i65 => ?_)
                      refine s_iast (pc := 110) o64 i65 dX12_lists_110 (fun M66 hM67 => ?_)
                      have h68 := le_wI hM67
                      have o69 := h68.ok o63
                      refine s_aload_n (pc := 111) 0 dX12_lists_111 rfl rfl ?_
                      refine s_dup (pc := 112) dX12_lists_112 rfl ?_
                      refine s_geti (pc := 113) F_12 11 rfl o69 dX12_lists_113 kf_X12_174 ?_
                      refine s_iconst (pc := 116) 1 dX12_lists_116 kc_1 ?_
                      refine s_iadd (pc := 117) dX12_lists_117 ?_
                      refine s_puti (pc := 118) F_12 11 rfl o69 rfl rfl rfl dX12_lists_118 kf_X12_174 (fun M70 hM71 => ?_)
                      have h72 := le_wI hM71
                      have o73 := h72.ok o69
                      exact s_drop (hj48 M70 (h56.tr (hs61.tr (h68.tr h72)))) (And.intro rfl (And.intro rfl (And.intro rfl (And.intro rfl (And.intro rfl (And.intro rfl (And.intro rfl (And.intro rfl trivial))))))))
                    · refine s_ifeq (pc := 93) 109 dX12_lists_93 rfl ?_ ?_
                      · refine s_iconst (pc := 109) 0 dX12_lists_109 kc_0 ?_
                        exact s_drop (hj62 (M54, 0) Le.rf) (And.intro rfl (And.intro rfl (And.intro rfl (And.intro rfl (And.intro rfl (And.intro rfl (And.intro rfl (And.intro rfl trivial))))))))
                      · refine s_aload_n (pc := 96) 0 dX12_lists_96 rfl rfl ?_
                        refine s_iload_n (pc := 97) 1 dX12_lists_97 rfl rfl ?_
                        refine s_iload (pc := 98) dX12_lists_98 rfl ?_
                        refine s_iload (pc := 100) dX12_lists_100 rfl ?_
                        refine s_iload_n (pc := 102) 2 dX12_lists_102 rfl rfl ?_
                        refine s_bind (fun q74 hq75 => ?_)
                        have hC76 := t_X12_weighs (l := xl X) (G := xG X) hq75
                        refine s_callV (pc := 103) (As := [.int p1, .int s9.2, .int s18.2, .int p2]) (st := [.int (mI M54 a0 11), .ref (gh (xG X) + r58)]) (nlt rfl) (q := (RX12, TX12, 59)) rfl rfl o57 cl_X12_weighs wi_X12_weighs wl_X12_weighs km_X12_181 rfl rfl (nle rfl) (nle rfl) (nle rfl) dX12_lists_103 hC76 ?_
                        have h77 := hC76.1 X
                        have o78 := h77.ok o57
                        show S0 X _ q74.1 106 [some (.ref (gh (xG X) + a0)), some (.int p1), some (.int p2), some (.int p3), some (.int q6), some (.int s9.2), some (.int s18.2), some (.int s27.2), some (.int q40.2)] [.int q74.2, .int (mI M54 a0 11), .ref (gh (xG X) + r58)] _
                        refine s_goto (pc := 106) 110 dX12_lists_106 rfl ?_
                        exact s_drop (hj62 (q74.1, q74.2) h77) (And.intro rfl (And.intro rfl (And.intro rfl (And.intro rfl (And.intro rfl (And.intro rfl (And.intro rfl (And.intro rfl trivial))))))))
                  · refine s_goto (pc := 70) 121 dX12_lists_70 rfl ?_
                    exact s_drop (hj48 q40.1 Le.rf) (And.intro rfl (And.intro rfl (And.intro rfl (And.intro rfl (And.intro rfl (And.intro rfl (And.intro rfl (And.intro rfl trivial))))))))
            · refine s_icne (pc := 38) 46 dX12_lists_38 rfl ?_ ?_
              · refine s_iconst (pc := 46) 1 dX12_lists_46 kc_1 ?_
                exact s_drop (hj39 1 Le.rf) (And.intro rfl (And.intro rfl (And.intro rfl (And.intro rfl (And.intro rfl (And.intro rfl (And.intro rfl (And.intro rfl trivial))))))))
              · refine s_bipush (pc := 41) 6 dX12_lists_41 kb_6 ?_
                refine s_goto (pc := 43) 47 dX12_lists_43 rfl ?_
                exact s_drop (hj39 6 Le.rf) (And.intro rfl (And.intro rfl (And.intro rfl (And.intro rfl (And.intro rfl (And.intro rfl (And.intro rfl (And.intro rfl trivial))))))))
set_option maxRecDepth 100000 in
set_option maxHeartbeats 8000000 in
noncomputable def f_X12_readOne (M : Mem) (a0 : Nat) : Option Mem :=
  grd (okO M 12 a0) (if (mI M a0 14) = 0 then (Option.bind (f_X12_readClause M a0) (fun q2 => some q2)) else (Option.bind (f_X12_readOrder M a0) (fun q7 => some q7)))
abbrev Y_X12_readOne : Sta := (RX12, "readOne", cX12_readOne, 1, none, 207)
set_option maxRecDepth 100000 in
set_option maxHeartbeats 8000000 in
theorem t_X12_readOne {l : Launch} {G : Gh} {M : Mem} {a0 : Nat} {q : Mem} (h : f_X12_readOne M a0 = some q) : Ctr l G yX12_readOne Y_X12_readOne M [.ref (gh G + a0)] q (none) := by
  refine Ctr.of (Y := Y_X12_readOne) (L := [some (.ref (gh G + a0))]) (t := Option.bind (f_X12_readOne M a0) (fun q => some (q, (none : Option Value)))) (by decide) rfl rfl (nle rfl) (Lof_in 0 _ rfl) (fun X hG hl => ?_) (by rw [h]; rfl)
  subst hG
  subst hl
  unfold f_X12_readOne
  refine s_aload_n (pc := 0) 0 dX12_readOne_0 rfl rfl ?_
  refine s_grd (fun o1 => ?_)
  refine s_geti (pc := 1) F_12 14 rfl o1 dX12_readOne_1 kf_X12_249 ?_
  refine s_ifeq (pc := 4) 14 dX12_readOne_4 rfl ?_ ?_
  · refine s_aload_n (pc := 14) 0 dX12_readOne_14 rfl rfl ?_
    refine s_bind (fun q2 hq3 => ?_)
    have hC4 := t_X12_readClause (l := xl X) (G := xG X) hq3
    refine s_callV (pc := 15) (As := []) (st := []) (nlt rfl) (q := (RX12, TX12, 59)) rfl rfl o1 cl_X12_readClause wi_X12_readClause wl_X12_readClause km_X12_269 rfl rfl (nle rfl) (nle rfl) (nle rfl) dX12_readOne_15 hC4 ?_
    have h5 := hC4.1 X
    have o6 := h5.ok o1
    show S0 X _ q2 18 [some (.ref (gh (xG X) + a0))] [] _
    exact s_vret rfl dX12_readOne_18
  · refine s_aload_n (pc := 7) 0 dX12_readOne_7 rfl rfl ?_
    refine s_bind (fun q7 hq8 => ?_)
    have hC9 := t_X12_readOrder (l := xl X) (G := xG X) hq8
    refine s_callV (pc := 8) (As := []) (st := []) (nlt rfl) (q := (RX12, TX12, 59)) rfl rfl o1 cl_X12_readOrder wi_X12_readOrder wl_X12_readOrder km_X12_266 rfl rfl (nle rfl) (nle rfl) (nle rfl) dX12_readOne_8 hC9 ?_
    have h10 := hC9.1 X
    have o11 := h10.ok o1
    show S0 X _ q7 11 [some (.ref (gh (xG X) + a0))] [] _
    refine s_goto (pc := 11) 18 dX12_readOne_11 rfl ?_
    exact s_vret rfl dX12_readOne_18
set_option maxRecDepth 100000 in
set_option maxHeartbeats 8000000 in
noncomputable def f_X7_read (M : Mem) (a0 : Nat) (p1 : Int32) : Option (Mem × Int32) :=
  grd (okO M 7 a0) (grd (pb p1) (bv (wI M a0 6 p1) (fun M2 => bv (wI M2 a0 5 (-1)) (fun M7 => bv (wI M7 a0 9 0) (fun M11 => Option.bind (mR M11 a0 3) (fun r15 => grd (okO M11 9 r15) (Option.bind (f_X9_clear M11 r15) (fun q17 => Option.bind (f_X7_cutTokens q17 a0) (fun q22 => bv (wI q22 a0 7 0) (fun M27 => Option.bind (mR M27 a0 1) (fun r31 => grd (okO M27 14 r31) (grd (vp_in 0 (mL M27 r31)) (bv (wI M27 a0 8 (mI M27 r31 (0 : Int32).toNatClampNeg)) (fun M34 => Option.bind (loopO (σ := Mem × Int32) (ρ := Mem ⊕ (Mem ⊕ (Mem ⊕ Mem))) (fun s38 => if 12 ≤ s38.2 then (some (.inr (.inl s38.1))) else (bv (fun (s60 : Mem) => if (mI s60 a0 8) = 256 then (some (.inr (.inr (.inr (.inl s60))))) else (if (mI s60 a0 8) = 59 then (Option.bind (f_X7_next s60 a0) (fun q64 => bv (s38.2 + 1 : Int32) (fun x69 => some (.inl (q64, x69))))) else (some (.inr (.inr (.inr (.inr s60))))))) (fun j59 => if (mI s38.1 a0 6) = 0 then (Option.bind (f_X7_lawClause s38.1 a0) (fun q70 => if q70.2 = 0 then (some (.inr (.inr (.inl q70.1)))) else (j59 q70.1))) else (Option.bind (f_X7_orderClause s38.1 a0) (fun q75 => if q75.2 = 0 then (some (.inr (.inr (.inl q75.1)))) else (j59 q75.1)))))) (M34, 0)) (Sum.elim (fun (x51 : Mem) => Option.bind (f_X7_fail x51 a0) (fun q81 => grd (bl q81.2) (some (q81.1, q81.2)))) (Sum.elim (fun (x53 : Mem) => some (x53, 0)) (Sum.elim (fun (x55 : Mem) => some (x55, 1)) (fun (x57 : Mem) => Option.bind (f_X7_fail x57 a0) (fun q88 => grd (bl q88.2) (some (q88.1, q88.2)))))))))))))))))))))
abbrev Y_X7_read : Sta := (RX7, "read", cX7_read, 3, (some .boolean), 207)
set_option maxRecDepth 100000 in
set_option maxHeartbeats 8000000 in
theorem t_X7_read {l : Launch} {G : Gh} {M : Mem} {a0 : Nat} {p1 : Int32} {q : Mem × Int32} (h : f_X7_read M a0 p1 = some q) : Ctr l G yX7_read Y_X7_read M [.ref (gh G + a0), .int p1] q.1 (some (.int q.2)) := by
  refine Ctr.of (Y := Y_X7_read) (L := [some (.ref (gh G + a0)), some (.int p1), none]) (t := Option.bind (f_X7_read M a0 p1) (fun q => some (q.1, some (.int q.2)))) (by decide) rfl rfl (nle rfl) (Lof_in 1 _ rfl) (fun X hG hl => ?_) (by rw [h]; rfl)
  subst hG
  subst hl
  unfold f_X7_read
  refine s_aload_n (pc := 0) 0 dX7_read_0 rfl rfl ?_
  refine s_iload_n (pc := 1) 1 dX7_read_1 rfl rfl ?_
  refine s_grd (fun o1 => ?_)
  refine s_grd (fun g5 => ?_)
  refine s_puti (pc := 2) F_7 6 rfl o1 rfl g5.1 g5.2 dX7_read_2 kf_X7_50 (fun M2 hM3 => ?_)
  have h4 := le_wI hM3
  have o6 := h4.ok o1
  refine s_aload_n (pc := 5) 0 dX7_read_5 rfl rfl ?_
  refine s_iconst (pc := 6) (-1) dX7_read_6 kc_m1 ?_
  refine s_puti (pc := 7) F_7 5 rfl o6 rfl rfl rfl dX7_read_7 kf_X7_30 (fun M7 hM8 => ?_)
  have h9 := le_wI hM8
  have o10 := h9.ok o6
  refine s_aload_n (pc := 10) 0 dX7_read_10 rfl rfl ?_
  refine s_iconst (pc := 11) 0 dX7_read_11 kc_0 ?_
  refine s_puti (pc := 12) F_7 9 rfl o10 rfl rfl rfl dX7_read_12 kf_X7_54 (fun M11 hM12 => ?_)
  have h13 := le_wI hM12
  have o14 := h13.ok o10
  refine s_aload_n (pc := 15) 0 dX7_read_15 rfl rfl ?_
  refine s_geto (pc := 16) F_7 3 rfl o14 dX7_read_16 kf_X7_26 ?_
  refine s_rvB (fun r15 => ?_)
  refine s_grd (fun o16 => ?_)
  refine s_bind (fun q17 hq18 => ?_)
  have hC19 := t_X9_clear (l := xl X) (G := xG X) hq18
  refine s_callV (pc := 19) (As := []) (st := []) (nlt rfl) (q := (RX9, TX9, 5)) rfl rfl o16 cl_X9_clear wi_X9_clear wl_X9_clear km_X7_57 rfl rfl (nle rfl) (nle rfl) (nle rfl) dX7_read_19 hC19 ?_
  have h20 := hC19.1 X
  have o21 := h20.ok o14
  show S0 X _ q17 22 [some (.ref (gh (xG X) + a0)), some (.int p1), none] [] _
  refine s_aload_n (pc := 22) 0 dX7_read_22 rfl rfl ?_
  refine s_bind (fun q22 hq23 => ?_)
  have hC24 := t_X7_cutTokens (l := xl X) (G := xG X) hq23
  refine s_callV (pc := 23) (As := []) (st := []) (nlt rfl) (q := (RX7, TX7, 10)) rfl rfl o21 cl_X7_cutTokens wi_X7_cutTokens wl_X7_cutTokens km_X7_60 rfl rfl (nle rfl) (nle rfl) (nle rfl) dX7_read_23 hC24 ?_
  have h25 := hC24.1 X
  have o26 := h25.ok o21
  show S0 X _ q22 26 [some (.ref (gh (xG X) + a0)), some (.int p1), none] [] _
  refine s_aload_n (pc := 26) 0 dX7_read_26 rfl rfl ?_
  refine s_iconst (pc := 27) 0 dX7_read_27 kc_0 ?_
  refine s_puti (pc := 28) F_7 7 rfl o26 rfl rfl rfl dX7_read_28 kf_X7_63 (fun M27 hM28 => ?_)
  have h29 := le_wI hM28
  have o30 := h29.ok o26
  refine s_aload_n (pc := 31) 0 dX7_read_31 rfl rfl ?_
  refine s_aload_n (pc := 32) 0 dX7_read_32 rfl rfl ?_
  refine s_geto (pc := 33) F_7 1 rfl o30 dX7_read_33 kf_X7_15 ?_
  refine s_rvB (fun r31 => ?_)
  refine s_iconst (pc := 36) 0 dX7_read_36 kc_0 ?_
  refine s_grd (fun o32 => ?_)
  refine s_grd (fun i33 => ?_)
  refine s_iald (pc := 37) o32 i33 dX7_read_37 ?_
  refine s_puti (pc := 38) F_7 8 rfl o30 rfl rfl rfl dX7_read_38 kf_X7_66 (fun M34 hM35 => ?_)
  have h36 := le_wI hM35
  have o37 := h36.ok o30
  refine s_iconst (pc := 41) 0 dX7_read_41 kc_0 ?_
  refine s_istore_n (pc := 42) 2 dX7_read_42 rfl (nlt rfl) rfl (L' := [some (.ref (gh (xG X) + a0)), some (.int p1), some (.int 0)]) rfl ?_
  refine s_drop (L' := [some (.ref (gh (xG X) + a0)), none, some (.int 0)]) ?_ (And.intro rfl (And.intro rfl trivial))
  refine s_loop4 M34 (fun s38 : Mem × Int32 => s38.1) (fun s38 : Mem × Int32 => [some (.ref (gh (xG X) + a0)), none, some (.int s38.2)]) (fun x51 : Mem => x51) 111 (fun x51 : Mem => [some (.ref (gh (xG X) + a0)), none, none]) (fun x53 : Mem => x53) 73 (fun x53 : Mem => [none, none, none]) (fun x55 : Mem => x55) 85 (fun x55 : Mem => [none, none, none]) (fun x57 : Mem => x57) 96 (fun x57 : Mem => [some (.ref (gh (xG X) + a0)), none, none]) (fun x51 hx52 => ?_) (fun x53 hx54 => ?_) (fun x55 hx56 => ?_) (fun x57 hx58 => ?_) (fun T40 R42 R44 R46 R48 hT41 hR43 hR45 hR47 hR49 s38 hs39 => ?_) (M34, 0) Le.rf
  · show S0 X _ x51 111 [some (.ref (gh (xG X) + a0)), none, none] [] _
    have o80 := hx52.ok o37
    refine s_aload_n (pc := 111) 0 dX7_read_111 rfl rfl ?_
    refine s_bind (fun q81 hq82 => ?_)
    have hC83 := t_X7_fail (l := xl X) (G := xG X) hq82
    refine s_callV (pc := 112) (As := []) (st := []) (nlt rfl) (q := (RX7, TX7, 10)) rfl rfl o80 cl_X7_fail wi_X7_fail wl_X7_fail km_X7_76 rfl rfl (nle rfl) (nle rfl) (nle rfl) dX7_read_112 hC83 ?_
    have h84 := hC83.1 X
    have o85 := h84.ok o80
    show S0 X _ q81.1 115 [some (.ref (gh (xG X) + a0)), none, none] [.int q81.2] _
    refine s_grd (fun g86 => ?_)
    exact s_zret rfl g86 dX7_read_115
  · show S0 X _ x53 73 [none, none, none] [] _
    refine s_iconst (pc := 73) 0 dX7_read_73 kc_0 ?_
    exact s_zret rfl rfl dX7_read_74
  · show S0 X _ x55 85 [none, none, none] [] _
    refine s_iconst (pc := 85) 1 dX7_read_85 kc_1 ?_
    exact s_zret rfl rfl dX7_read_86
  · show S0 X _ x57 96 [some (.ref (gh (xG X) + a0)), none, none] [] _
    have o87 := hx58.ok o37
    refine s_aload_n (pc := 96) 0 dX7_read_96 rfl rfl ?_
    refine s_bind (fun q88 hq89 => ?_)
    have hC90 := t_X7_fail (l := xl X) (G := xG X) hq89
    refine s_callV (pc := 97) (As := []) (st := []) (nlt rfl) (q := (RX7, TX7, 10)) rfl rfl o87 cl_X7_fail wi_X7_fail wl_X7_fail km_X7_76 rfl rfl (nle rfl) (nle rfl) (nle rfl) dX7_read_97 hC90 ?_
    have h91 := hC90.1 X
    have o92 := h91.ok o87
    show S0 X _ q88.1 100 [some (.ref (gh (xG X) + a0)), none, none] [.int q88.2] _
    refine s_grd (fun g93 => ?_)
    exact s_zret rfl g93 dX7_read_100
  · show S0 X _ s38.1 43 [some (.ref (gh (xG X) + a0)), none, some (.int s38.2)] [] _
    have o50 := hs39.ok o37
    refine s_iload_n (pc := 43) 2 dX7_read_43 rfl rfl ?_
    refine s_bipush (pc := 44) 12 dX7_read_44 kb_12 ?_
    refine s_icge (pc := 46) 111 dX7_read_46 rfl ?_ ?_
    · exact s_drop (hR43 s38.1 hs39) (And.intro rfl trivial)
    · refine s_aload_n (pc := 49) 0 dX7_read_49 rfl rfl ?_
      refine s_geti (pc := 50) F_7 6 rfl o50 dX7_read_50 kf_X7_50 ?_
      refine s_join s38.1 (fun s60 : Mem => s60) 75 (fun s60 : Mem => [some (.ref (gh (xG X) + a0)), none, some (.int s38.2)]) (fun s60 : Mem => []) (fun s60 hs61 => ?_) (fun j59 hj62 => ?_)
      · show S0 X _ s60 75 [some (.ref (gh (xG X) + a0)), none, some (.int s38.2)] [] _
        have o63 := hs61.ok o50
        refine s_aload_n (pc := 75) 0 dX7_read_75 rfl rfl ?_
        refine s_geti (pc := 76) F_7 8 rfl o63 dX7_read_76 kf_X7_66 ?_
        refine s_sipush (pc := 79) 256 dX7_read_79 ks_256 ?_
        refine s_icne (pc := 82) 87 dX7_read_82 rfl ?_ ?_
        · refine s_aload_n (pc := 87) 0 dX7_read_87 rfl rfl ?_
          refine s_geti (pc := 88) F_7 8 rfl o63 dX7_read_88 kf_X7_66 ?_
          refine s_bipush (pc := 91) 59 dX7_read_91 kb_59 ?_
          refine s_iceq (pc := 93) 101 dX7_read_93 rfl ?_ ?_
          · refine s_aload_n (pc := 101) 0 dX7_read_101 rfl rfl ?_
            refine s_bind (fun q64 hq65 => ?_)
            have hC66 := t_X7_next (l := xl X) (G := xG X) hq65
            refine s_callV (pc := 102) (As := []) (st := []) (nlt rfl) (q := (RX7, TX7, 10)) rfl rfl o63 cl_X7_next wi_X7_next wl_X7_next km_X7_79 rfl rfl (nle rfl) (nle rfl) (nle rfl) dX7_read_102 hC66 ?_
            have h67 := hC66.1 X
            have o68 := h67.ok o63
            show S0 X _ q64 105 [some (.ref (gh (xG X) + a0)), none, some (.int s38.2)] [] _
            refine s_iinc (pc := 105) dX7_read_105 rfl (v := s38.2 + 1) (congrArg (fun z : Int32 => s38.2 + z) kc_1) (nlt rfl) rfl (L' := [some (.ref (gh (xG X) + a0)), none, some (.int (s38.2 + 1))]) rfl ?_
            refine s_bv (fun x69 : Int32 => [some (.ref (gh (xG X) + a0)), none, some (.int x69)]) (fun x69 => ?_) rfl
            refine s_goto (pc := 108) 43 dX7_read_108 rfl ?_
            exact s_drop (hT41 (q64, x69) (hs39.tr (hs61.tr h67))) (And.intro rfl (And.intro rfl trivial))
          · exact s_drop (hR49 s60 (hs39.tr hs61)) (And.intro rfl trivial)
        · exact s_drop (hR47 s60 (hs39.tr hs61)) trivial
      · refine s_ifeq (pc := 53) 66 dX7_read_53 rfl ?_ ?_
        · refine s_aload_n (pc := 66) 0 dX7_read_66 rfl rfl ?_
          refine s_bind (fun q70 hq71 => ?_)
          have hC72 := t_X7_lawClause (l := xl X) (G := xG X) hq71
          refine s_callV (pc := 67) (As := []) (st := []) (nlt rfl) (q := (RX7, TX7, 10)) rfl rfl o50 cl_X7_lawClause wi_X7_lawClause wl_X7_lawClause km_X7_73 rfl rfl (nle rfl) (nle rfl) (nle rfl) dX7_read_67 hC72 ?_
          have h73 := hC72.1 X
          have o74 := h73.ok o50
          show S0 X _ q70.1 70 [some (.ref (gh (xG X) + a0)), none, some (.int s38.2)] [.int q70.2] _
          refine s_ifne (pc := 70) 75 dX7_read_70 rfl ?_ ?_
          · exact s_drop (hj62 q70.1 h73) (And.intro rfl (And.intro rfl trivial))
          · exact s_drop (hR45 q70.1 (hs39.tr h73)) trivial
        · refine s_aload_n (pc := 56) 0 dX7_read_56 rfl rfl ?_
          refine s_bind (fun q75 hq76 => ?_)
          have hC77 := t_X7_orderClause (l := xl X) (G := xG X) hq76
          refine s_callV (pc := 57) (As := []) (st := []) (nlt rfl) (q := (RX7, TX7, 10)) rfl rfl o50 cl_X7_orderClause wi_X7_orderClause wl_X7_orderClause km_X7_69 rfl rfl (nle rfl) (nle rfl) (nle rfl) dX7_read_57 hC77 ?_
          have h78 := hC77.1 X
          have o79 := h78.ok o50
          show S0 X _ q75.1 60 [some (.ref (gh (xG X) + a0)), none, some (.int s38.2)] [.int q75.2] _
          refine s_ifeq (pc := 60) 73 dX7_read_60 rfl ?_ ?_
          · exact s_drop (hR45 q75.1 (hs39.tr h78)) trivial
          · refine s_goto (pc := 63) 75 dX7_read_63 rfl ?_
            exact s_drop (hj62 q75.1 h78) (And.intro rfl (And.intro rfl trivial))
