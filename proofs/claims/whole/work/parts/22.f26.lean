set_option maxRecDepth 100000 in
set_option maxHeartbeats 8000000 in
noncomputable def f_X4_seekFirst (M : Mem) (a0 : Nat) (p1 : Int32) : Option Mem :=
  grd (okO M 4 a0) (bv (fun (s3 : Unit) => bv (wI M a0 5 p1) (fun M6 => Option.bind (mR M6 a0 0) (fun r10 => grd (okO M6 10 r10) (bv (wI M6 a0 6 (mI M6 r10 14)) (fun M12 => ncase (mR M12 a0 4) (bv (fun (s18 : Mem) => Option.bind (mR s18 a0 4) (fun r22 => Option.bind (f_J7_fill_53178 s18 r22 0) (fun q23 => Option.bind (loopO (σ := Mem × Int32) (ρ := Mem) (fun s28 => Option.bind (mR s28.1 a0 0) (fun r37 => grd (okO s28.1 10 r37) (if (mI s28.1 r37 8) ≤ s28.2 then (some (.inr s28.1)) else (bv (fun (s40 : Mem) => bv (s28.2 + 1 : Int32) (fun x44 => some (.inl (s40, x44)))) (fun j39 => if ((sr p1 s28.2) &&& 1) = 1 then (Option.bind (mR s28.1 a0 0) (fun r45 => grd (okO s28.1 10 r45) (Option.bind (mR s28.1 r45 5) (fun r47 => grd (okO s28.1 14 r47) (grd (vp_in s28.2 (mL s28.1 r47)) (Option.bind (mR s28.1 a0 0) (fun r50 => grd (okO s28.1 10 r50) (Option.bind (f_X4_tableTo s28.1 a0 (mI s28.1 r47 s28.2.toNatClampNeg) (mI s28.1 r50 11)) (fun q52 => grd (okO q52.1 2 q52.2) (Option.bind (f_X2_spread q52.1 q52.2 (-1) 9331) (fun q58 => Option.bind (mR q58 q52.2 2) (fun r64 => Option.bind (f_X4_addFrom q58 a0 r64) (fun q65 => j39 q65))))))))))))) else (j39 s28.1)))))) (q23, 0)) (fun (x35 : Mem) => Option.bind (f_X4_findLeast x35 a0) (fun q72 => some q72))))) (fun j17 => bv (nA M12 14 (9331 : Int32).toNatClampNeg) (fun M77 => bv (wR M77 a0 4 (some (mn M12))) (fun M82 => j17 M82)))) (fun r16 => bv (fun (s87 : Mem) => Option.bind (mR s87 a0 4) (fun r91 => Option.bind (f_J7_fill_53178 s87 r91 0) (fun q92 => Option.bind (loopO (σ := Mem × Int32) (ρ := Mem) (fun s97 => Option.bind (mR s97.1 a0 0) (fun r106 => grd (okO s97.1 10 r106) (if (mI s97.1 r106 8) ≤ s97.2 then (some (.inr s97.1)) else (bv (fun (s109 : Mem) => bv (s97.2 + 1 : Int32) (fun x113 => some (.inl (s109, x113)))) (fun j108 => if ((sr p1 s97.2) &&& 1) = 1 then (Option.bind (mR s97.1 a0 0) (fun r114 => grd (okO s97.1 10 r114) (Option.bind (mR s97.1 r114 5) (fun r116 => grd (okO s97.1 14 r116) (grd (vp_in s97.2 (mL s97.1 r116)) (Option.bind (mR s97.1 a0 0) (fun r119 => grd (okO s97.1 10 r119) (Option.bind (f_X4_tableTo s97.1 a0 (mI s97.1 r116 s97.2.toNatClampNeg) (mI s97.1 r119 11)) (fun q121 => grd (okO q121.1 2 q121.2) (Option.bind (f_X2_spread q121.1 q121.2 (-1) 9331) (fun q127 => Option.bind (mR q127 q121.2 2) (fun r133 => Option.bind (f_X4_addFrom q127 a0 r133) (fun q134 => j108 q134))))))))))))) else (j108 s97.1)))))) (q92, 0)) (fun (x104 : Mem) => Option.bind (f_X4_findLeast x104 a0) (fun q141 => some q141))))) (fun j86 => j86 M12))))))) (fun j2 => if (mI M a0 5) = p1 then (Option.bind (mR M a0 0) (fun r146 => grd (okO M 10 r146) (if (mI M a0 6) = (mI M r146 14) then (some M) else (j2 ())))) else (j2 ())))
abbrev Y_X4_seekFirst : Sta := (RX4, "seekFirst", cX4_seekFirst, 4, none, 7)
set_option maxRecDepth 100000 in
set_option maxHeartbeats 8000000 in
theorem t_X4_seekFirst {l : Launch} {G : Gh} {M : Mem} {a0 : Nat} {p1 : Int32} {q : Mem} (h : f_X4_seekFirst M a0 p1 = some q) : Ctr l G yX4_seekFirst Y_X4_seekFirst M [.ref (gh G + a0), .int p1] q (none) := by
  refine Ctr.of (Y := Y_X4_seekFirst) (L := [some (.ref (gh G + a0)), some (.int p1), none, none]) (t := Option.bind (f_X4_seekFirst M a0 p1) (fun q => some (q, (none : Option Value)))) (by decide) rfl rfl (nle rfl) (Lof_in 2 _ rfl) (fun X hG hl => ?_) (by rw [h]; rfl)
  subst hG
  subst hl
  unfold f_X4_seekFirst
  refine s_aload_n (pc := 0) 0 dX4_seekFirst_0 rfl rfl ?_
  refine s_grd (fun o1 => ?_)
  refine s_geti (pc := 1) F_4 5 rfl o1 dX4_seekFirst_1 kf_X4_57 ?_
  refine s_iload_n (pc := 4) 1 dX4_seekFirst_4 rfl rfl ?_
  refine s_join M (fun s3 : Unit => M) 23 (fun s3 : Unit => [some (.ref (gh (xG X) + a0)), some (.int p1), none, none]) (fun s3 : Unit => []) (fun s3 hs4 => ?_) (fun j2 hj5 => ?_)
  · show S0 X _ M 23 [some (.ref (gh (xG X) + a0)), some (.int p1), none, none] [] _
    refine s_aload_n (pc := 23) 0 dX4_seekFirst_23 rfl rfl ?_
    refine s_iload_n (pc := 24) 1 dX4_seekFirst_24 rfl rfl ?_
    refine s_puti (pc := 25) F_4 5 rfl o1 rfl rfl rfl dX4_seekFirst_25 kf_X4_57 (fun M6 hM7 => ?_)
    have h8 := le_wI hM7
    have o9 := h8.ok o1
    refine s_aload_n (pc := 28) 0 dX4_seekFirst_28 rfl rfl ?_
    refine s_aload_n (pc := 29) 0 dX4_seekFirst_29 rfl rfl ?_
    refine s_geto (pc := 30) F_4 0 rfl o9 dX4_seekFirst_30 kf_X4_17 ?_
    refine s_rvB (fun r10 => ?_)
    refine s_grd (fun o11 => ?_)
    refine s_getiN (pc := 33) F_10 14 rfl o11 dX4_seekFirst_33 (List.mem_of_getElem? (i := 20) rfl) ?_
    refine s_puti (pc := 36) F_4 6 rfl o9 rfl rfl rfl dX4_seekFirst_36 kf_X4_60 (fun M12 hM13 => ?_)
    have h14 := le_wI hM13
    have o15 := h14.ok o9
    refine s_aload_n (pc := 39) 0 dX4_seekFirst_39 rfl rfl ?_
    refine s_geto (pc := 40) F_4 4 rfl o15 dX4_seekFirst_40 kf_X4_66 ?_
    refine s_rv ?_ (fun r16 => ?_)
    · refine s_join M12 (fun s18 : Mem => s18) 55 (fun s18 : Mem => [some (.ref (gh (xG X) + a0)), some (.int p1), none, none]) (fun s18 : Mem => []) (fun s18 hs19 => ?_) (fun j17 hj20 => ?_)
      · show S0 X _ s18 55 [some (.ref (gh (xG X) + a0)), some (.int p1), none, none] [] _
        have o21 := hs19.ok o15
        refine s_aload_n (pc := 55) 0 dX4_seekFirst_55 rfl rfl ?_
        refine s_geto (pc := 56) F_4 4 rfl o21 dX4_seekFirst_56 kf_X4_66 ?_
        refine s_rvB (fun r22 => ?_)
        refine s_iconst (pc := 59) 0 dX4_seekFirst_59 kc_0 ?_
        refine s_bind (fun q23 hq24 => ?_)
        have hC25 := t_J7_fill_53178 (l := xl X) (G := xG X) hq24
        refine s_callS (pc := 60) (As := [.ref (gh (xG X) + r22), .int 0]) (st := []) cl_J7_fill_53178 wt_J7_fill_53178 km_X4_70 rfl rfl (nle rfl) (nle rfl) (nle rfl) dX4_seekFirst_60 hC25 ?_
        have h26 := hC25.1 X
        have o27 := h26.ok o21
        show S0 X _ q23 63 [some (.ref (gh (xG X) + a0)), some (.int p1), none, none] [] _
        refine s_iconst (pc := 63) 0 dX4_seekFirst_63 kc_0 ?_
        refine s_istore_n (pc := 64) 2 dX4_seekFirst_64 rfl (nlt rfl) rfl (L' := [some (.ref (gh (xG X) + a0)), some (.int p1), some (.int 0), none]) rfl ?_
        refine s_drop (L' := [some (.ref (gh (xG X) + a0)), some (.int p1), some (.int 0), none]) ?_ (And.intro rfl (And.intro rfl (And.intro rfl trivial)))
        refine s_loop1 q23 (fun s28 : Mem × Int32 => s28.1) (fun s28 : Mem × Int32 => [some (.ref (gh (xG X) + a0)), some (.int p1), some (.int s28.2), none]) (fun x35 : Mem => x35) 128 (fun x35 : Mem => [some (.ref (gh (xG X) + a0)), none, none, none]) (fun x35 hx36 => ?_) (fun T30 R32 hT31 hR33 s28 hs29 => ?_) (q23, 0) Le.rf
        · show S0 X _ x35 128 [some (.ref (gh (xG X) + a0)), none, none, none] [] _
          have o71 := hx36.ok o27
          refine s_aload_n (pc := 128) 0 dX4_seekFirst_128 rfl rfl ?_
          refine s_bind (fun q72 hq73 => ?_)
          have hC74 := t_X4_findLeast (l := xl X) (G := xG X) hq73
          refine s_callV (pc := 129) (As := []) (st := []) (nlt rfl) (q := (RX4, TX4, 10)) rfl rfl o71 cl_X4_findLeast wi_X4_findLeast wl_X4_findLeast km_X4_89 rfl rfl (nle rfl) (nle rfl) (nle rfl) dX4_seekFirst_129 hC74 ?_
          have h75 := hC74.1 X
          have o76 := h75.ok o71
          show S0 X _ q72 132 [some (.ref (gh (xG X) + a0)), none, none, none] [] _
          exact s_vret rfl dX4_seekFirst_132
        · show S0 X _ s28.1 65 [some (.ref (gh (xG X) + a0)), some (.int p1), some (.int s28.2), none] [] _
          have o34 := hs29.ok o27
          refine s_iload_n (pc := 65) 2 dX4_seekFirst_65 rfl rfl ?_
          refine s_aload_n (pc := 66) 0 dX4_seekFirst_66 rfl rfl ?_
          refine s_geto (pc := 67) F_4 0 rfl o34 dX4_seekFirst_67 kf_X4_17 ?_
          refine s_rvB (fun r37 => ?_)
          refine s_grd (fun o38 => ?_)
          refine s_getiN (pc := 70) F_10 8 rfl o38 dX4_seekFirst_70 (List.mem_of_getElem? (i := 8) rfl) ?_
          refine s_icge (pc := 73) 128 dX4_seekFirst_73 rfl ?_ ?_
          · exact s_drop (hR33 s28.1 hs29) (And.intro rfl trivial)
          · refine s_iload_n (pc := 76) 1 dX4_seekFirst_76 rfl rfl ?_
            refine s_iload_n (pc := 77) 2 dX4_seekFirst_77 rfl rfl ?_
            refine s_ishr (pc := 78) dX4_seekFirst_78 ?_
            refine s_iconst (pc := 79) 1 dX4_seekFirst_79 kc_1 ?_
            refine s_iand (pc := 80) dX4_seekFirst_80 ?_
            refine s_iconst (pc := 81) 1 dX4_seekFirst_81 kc_1 ?_
            refine s_join s28.1 (fun s40 : Mem => s40) 122 (fun s40 : Mem => [some (.ref (gh (xG X) + a0)), some (.int p1), some (.int s28.2), none]) (fun s40 : Mem => []) (fun s40 hs41 => ?_) (fun j39 hj42 => ?_)
            · show S0 X _ s40 122 [some (.ref (gh (xG X) + a0)), some (.int p1), some (.int s28.2), none] [] _
              have o43 := hs41.ok o34
              refine s_iinc (pc := 122) dX4_seekFirst_122 rfl (v := s28.2 + 1) (congrArg (fun z : Int32 => s28.2 + z) kc_1) (nlt rfl) rfl (L' := [some (.ref (gh (xG X) + a0)), some (.int p1), some (.int (s28.2 + 1)), none]) rfl ?_
              refine s_bv (fun x44 : Int32 => [some (.ref (gh (xG X) + a0)), some (.int p1), some (.int x44), none]) (fun x44 => ?_) rfl
              refine s_goto (pc := 125) 65 dX4_seekFirst_125 rfl ?_
              exact s_drop (hT31 (s40, x44) (hs29.tr hs41)) (And.intro rfl (And.intro rfl (And.intro rfl trivial)))
            · refine s_icne (pc := 82) 122 dX4_seekFirst_82 rfl ?_ ?_
              · exact s_drop (hj42 s28.1 Le.rf) (And.intro rfl (And.intro rfl (And.intro rfl trivial)))
              · refine s_aload_n (pc := 85) 0 dX4_seekFirst_85 rfl rfl ?_
                refine s_aload_n (pc := 86) 0 dX4_seekFirst_86 rfl rfl ?_
                refine s_geto (pc := 87) F_4 0 rfl o34 dX4_seekFirst_87 kf_X4_17 ?_
                refine s_rvB (fun r45 => ?_)
                refine s_grd (fun o46 => ?_)
                refine s_getoN (pc := 90) F_10 5 rfl o46 dX4_seekFirst_90 (List.mem_of_getElem? (i := 6) rfl) ?_
                refine s_rvB (fun r47 => ?_)
                refine s_iload_n (pc := 93) 2 dX4_seekFirst_93 rfl rfl ?_
                refine s_grd (fun o48 => ?_)
                refine s_grd (fun i49 => ?_)
                refine s_iald (pc := 94) o48 i49 dX4_seekFirst_94 ?_
                refine s_aload_n (pc := 95) 0 dX4_seekFirst_95 rfl rfl ?_
                refine s_geto (pc := 96) F_4 0 rfl o34 dX4_seekFirst_96 kf_X4_17 ?_
                refine s_rvB (fun r50 => ?_)
                refine s_grd (fun o51 => ?_)
                refine s_getiN (pc := 99) F_10 11 rfl o51 dX4_seekFirst_99 (List.mem_of_getElem? (i := 13) rfl) ?_
                refine s_bind (fun q52 hq53 => ?_)
                have hC54 := t_X4_tableTo (l := xl X) (G := xG X) hq53
                refine s_callV (pc := 102) (As := [.int (mI s28.1 r47 s28.2.toNatClampNeg), .int (mI s28.1 r50 11)]) (st := []) (nlt rfl) (q := (RX4, TX4, 10)) rfl rfl o34 cl_X4_tableTo wi_X4_tableTo wl_X4_tableTo km_X4_46 rfl rfl (nle rfl) (nle rfl) (nle rfl) dX4_seekFirst_102 hC54 ?_
                have h55 := hC54.1 X
                have o56 := h55.ok o34
                show S0 X _ q52.1 105 [some (.ref (gh (xG X) + a0)), some (.int p1), some (.int s28.2), none] [.ref (gh (xG X) + q52.2)] _
                refine s_astore_n (pc := 105) 3 dX4_seekFirst_105 rfl (nlt rfl) rfl (L' := [some (.ref (gh (xG X) + a0)), some (.int p1), some (.int s28.2), some (.ref (gh (xG X) + q52.2))]) rfl ?_
                refine s_aload_n (pc := 106) 3 dX4_seekFirst_106 rfl rfl ?_
                refine s_iconst (pc := 107) (-1) dX4_seekFirst_107 kc_m1 ?_
                refine s_sipush (pc := 108) 9331 dX4_seekFirst_108 ks_9331 ?_
                refine s_grd (fun o57 => ?_)
                refine s_bind (fun q58 hq59 => ?_)
                have hC60 := t_X2_spread (l := xl X) (G := xG X) hq59
                refine s_callV (pc := 111) (As := [.int (-1), .int 9331]) (st := []) (nlt rfl) (q := (RX2, TX2, 11)) rfl rfl o57 cl_X2_spread wi_X2_spread wl_X2_spread km_X4_50 rfl rfl (nle rfl) (nle rfl) (nle rfl) dX4_seekFirst_111 hC60 ?_
                have h61 := hC60.1 X
                have o62 := h61.ok o56
                have o63 := h61.ok o57
                show S0 X _ q58 114 [some (.ref (gh (xG X) + a0)), some (.int p1), some (.int s28.2), some (.ref (gh (xG X) + q52.2))] [] _
                refine s_aload_n (pc := 114) 0 dX4_seekFirst_114 rfl rfl ?_
                refine s_aload_n (pc := 115) 3 dX4_seekFirst_115 rfl rfl ?_
                refine s_geto (pc := 116) F_2 2 rfl o63 dX4_seekFirst_116 kf_X4_53 ?_
                refine s_rvB (fun r64 => ?_)
                refine s_bind (fun q65 hq66 => ?_)
                have hC67 := t_X4_addFrom (l := xl X) (G := xG X) hq66
                refine s_callV (pc := 119) (As := [.ref (gh (xG X) + r64)]) (st := []) (nlt rfl) (q := (RX4, TX4, 10)) rfl rfl o62 cl_X4_addFrom wi_X4_addFrom wl_X4_addFrom km_X4_85 rfl rfl (nle rfl) (nle rfl) (nle rfl) dX4_seekFirst_119 hC67 ?_
                have h68 := hC67.1 X
                have o69 := h68.ok o62
                have o70 := h68.ok o63
                show S0 X _ q65 122 [some (.ref (gh (xG X) + a0)), some (.int p1), some (.int s28.2), some (.ref (gh (xG X) + q52.2))] [] _
                exact s_drop (hj42 q65 (h55.tr (h61.tr h68))) (And.intro rfl (And.intro rfl (And.intro rfl trivial)))
      · refine s_nonnullF (pc := 43) dX4_seekFirst_43 ?_
        refine s_aload_n (pc := 46) 0 dX4_seekFirst_46 rfl rfl ?_
        refine s_sipush (pc := 47) 9331 dX4_seekFirst_47 ks_9331 ?_
        refine s_newa_int (pc := 50) (And.intro (by decide) (by decide)) dX4_seekFirst_50 wa_int (fun M77 hM78 => ?_)
        have h79 := le_nA hM78
        have o80 := h79.ok o15
        have o81 := ok_nA hM78
        refine s_putr (pc := 52) F_4 4 rfl o80 rfl rfl rfl dX4_seekFirst_52 kf_X4_66 (fun M82 hM83 => ?_)
        have h84 := le_wR hM83
        have o85 := h84.ok o80
        exact s_drop (hj20 M82 (h79.tr h84)) (And.intro rfl (And.intro rfl trivial))
    · refine s_join M12 (fun s87 : Mem => s87) 55 (fun s87 : Mem => [some (.ref (gh (xG X) + a0)), some (.int p1), none, none]) (fun s87 : Mem => []) (fun s87 hs88 => ?_) (fun j86 hj89 => ?_)
      · show S0 X _ s87 55 [some (.ref (gh (xG X) + a0)), some (.int p1), none, none] [] _
        have o90 := hs88.ok o15
        refine s_aload_n (pc := 55) 0 dX4_seekFirst_55 rfl rfl ?_
        refine s_geto (pc := 56) F_4 4 rfl o90 dX4_seekFirst_56 kf_X4_66 ?_
        refine s_rvB (fun r91 => ?_)
        refine s_iconst (pc := 59) 0 dX4_seekFirst_59 kc_0 ?_
        refine s_bind (fun q92 hq93 => ?_)
        have hC94 := t_J7_fill_53178 (l := xl X) (G := xG X) hq93
        refine s_callS (pc := 60) (As := [.ref (gh (xG X) + r91), .int 0]) (st := []) cl_J7_fill_53178 wt_J7_fill_53178 km_X4_70 rfl rfl (nle rfl) (nle rfl) (nle rfl) dX4_seekFirst_60 hC94 ?_
        have h95 := hC94.1 X
        have o96 := h95.ok o90
        show S0 X _ q92 63 [some (.ref (gh (xG X) + a0)), some (.int p1), none, none] [] _
        refine s_iconst (pc := 63) 0 dX4_seekFirst_63 kc_0 ?_
        refine s_istore_n (pc := 64) 2 dX4_seekFirst_64 rfl (nlt rfl) rfl (L' := [some (.ref (gh (xG X) + a0)), some (.int p1), some (.int 0), none]) rfl ?_
        refine s_drop (L' := [some (.ref (gh (xG X) + a0)), some (.int p1), some (.int 0), none]) ?_ (And.intro rfl (And.intro rfl (And.intro rfl trivial)))
        refine s_loop1 q92 (fun s97 : Mem × Int32 => s97.1) (fun s97 : Mem × Int32 => [some (.ref (gh (xG X) + a0)), some (.int p1), some (.int s97.2), none]) (fun x104 : Mem => x104) 128 (fun x104 : Mem => [some (.ref (gh (xG X) + a0)), none, none, none]) (fun x104 hx105 => ?_) (fun T99 R101 hT100 hR102 s97 hs98 => ?_) (q92, 0) Le.rf
        · show S0 X _ x104 128 [some (.ref (gh (xG X) + a0)), none, none, none] [] _
          have o140 := hx105.ok o96
          refine s_aload_n (pc := 128) 0 dX4_seekFirst_128 rfl rfl ?_
          refine s_bind (fun q141 hq142 => ?_)
          have hC143 := t_X4_findLeast (l := xl X) (G := xG X) hq142
          refine s_callV (pc := 129) (As := []) (st := []) (nlt rfl) (q := (RX4, TX4, 10)) rfl rfl o140 cl_X4_findLeast wi_X4_findLeast wl_X4_findLeast km_X4_89 rfl rfl (nle rfl) (nle rfl) (nle rfl) dX4_seekFirst_129 hC143 ?_
          have h144 := hC143.1 X
          have o145 := h144.ok o140
          show S0 X _ q141 132 [some (.ref (gh (xG X) + a0)), none, none, none] [] _
          exact s_vret rfl dX4_seekFirst_132
        · show S0 X _ s97.1 65 [some (.ref (gh (xG X) + a0)), some (.int p1), some (.int s97.2), none] [] _
          have o103 := hs98.ok o96
          refine s_iload_n (pc := 65) 2 dX4_seekFirst_65 rfl rfl ?_
          refine s_aload_n (pc := 66) 0 dX4_seekFirst_66 rfl rfl ?_
          refine s_geto (pc := 67) F_4 0 rfl o103 dX4_seekFirst_67 kf_X4_17 ?_
          refine s_rvB (fun r106 => ?_)
          refine s_grd (fun o107 => ?_)
          refine s_getiN (pc := 70) F_10 8 rfl o107 dX4_seekFirst_70 (List.mem_of_getElem? (i := 8) rfl) ?_
          refine s_icge (pc := 73) 128 dX4_seekFirst_73 rfl ?_ ?_
          · exact s_drop (hR102 s97.1 hs98) (And.intro rfl trivial)
          · refine s_iload_n (pc := 76) 1 dX4_seekFirst_76 rfl rfl ?_
            refine s_iload_n (pc := 77) 2 dX4_seekFirst_77 rfl rfl ?_
            refine s_ishr (pc := 78) dX4_seekFirst_78 ?_
            refine s_iconst (pc := 79) 1 dX4_seekFirst_79 kc_1 ?_
            refine s_iand (pc := 80) dX4_seekFirst_80 ?_
            refine s_iconst (pc := 81) 1 dX4_seekFirst_81 kc_1 ?_
            refine s_join s97.1 (fun s109 : Mem => s109) 122 (fun s109 : Mem => [some (.ref (gh (xG X) + a0)), some (.int p1), some (.int s97.2), none]) (fun s109 : Mem => []) (fun s109 hs110 => ?_) (fun j108 hj111 => ?_)
            · show S0 X _ s109 122 [some (.ref (gh (xG X) + a0)), some (.int p1), some (.int s97.2), none] [] _
              have o112 := hs110.ok o103
              refine s_iinc (pc := 122) dX4_seekFirst_122 rfl (v := s97.2 + 1) (congrArg (fun z : Int32 => s97.2 + z) kc_1) (nlt rfl) rfl (L' := [some (.ref (gh (xG X) + a0)), some (.int p1), some (.int (s97.2 + 1)), none]) rfl ?_
              refine s_bv (fun x113 : Int32 => [some (.ref (gh (xG X) + a0)), some (.int p1), some (.int x113), none]) (fun x113 => ?_) rfl
              refine s_goto (pc := 125) 65 dX4_seekFirst_125 rfl ?_
              exact s_drop (hT100 (s109, x113) (hs98.tr hs110)) (And.intro rfl (And.intro rfl (And.intro rfl trivial)))
            · refine s_icne (pc := 82) 122 dX4_seekFirst_82 rfl ?_ ?_
              · exact s_drop (hj111 s97.1 Le.rf) (And.intro rfl (And.intro rfl (And.intro rfl trivial)))
              · refine s_aload_n (pc := 85) 0 dX4_seekFirst_85 rfl rfl ?_
                refine s_aload_n (pc := 86) 0 dX4_seekFirst_86 rfl rfl ?_
                refine s_geto (pc := 87) F_4 0 rfl o103 dX4_seekFirst_87 kf_X4_17 ?_
                refine s_rvB (fun r114 => ?_)
                refine s_grd (fun o115 => ?_)
                refine s_getoN (pc := 90) F_10 5 rfl o115 dX4_seekFirst_90 (List.mem_of_getElem? (i := 6) rfl) ?_
                refine s_rvB (fun r116 => ?_)
                refine s_iload_n (pc := 93) 2 dX4_seekFirst_93 rfl rfl ?_
                refine s_grd (fun o117 => ?_)
                refine s_grd (fun i118 => ?_)
                refine s_iald (pc := 94) o117 i118 dX4_seekFirst_94 ?_
                refine s_aload_n (pc := 95) 0 dX4_seekFirst_95 rfl rfl ?_
                refine s_geto (pc := 96) F_4 0 rfl o103 dX4_seekFirst_96 kf_X4_17 ?_
                refine s_rvB (fun r119 => ?_)
                refine s_grd (fun o120 => ?_)
                refine s_getiN (pc := 99) F_10 11 rfl o120 dX4_seekFirst_99 (List.mem_of_getElem? (i := 13) rfl) ?_
                refine s_bind (fun q121 hq122 => ?_)
                have hC123 := t_X4_tableTo (l := xl X) (G := xG X) hq122
                refine s_callV (pc := 102) (As := [.int (mI s97.1 r116 s97.2.toNatClampNeg), .int (mI s97.1 r119 11)]) (st := []) (nlt rfl) (q := (RX4, TX4, 10)) rfl rfl o103 cl_X4_tableTo wi_X4_tableTo wl_X4_tableTo km_X4_46 rfl rfl (nle rfl) (nle rfl) (nle rfl) dX4_seekFirst_102 hC123 ?_
                have h124 := hC123.1 X
                have o125 := h124.ok o103
                show S0 X _ q121.1 105 [some (.ref (gh (xG X) + a0)), some (.int p1), some (.int s97.2), none] [.ref (gh (xG X) + q121.2)] _
                refine s_astore_n (pc := 105) 3 dX4_seekFirst_105 rfl (nlt rfl) rfl (L' := [some (.ref (gh (xG X) + a0)), some (.int p1), some (.int s97.2), some (.ref (gh (xG X) + q121.2))]) rfl ?_
                refine s_aload_n (pc := 106) 3 dX4_seekFirst_106 rfl rfl ?_
                refine s_iconst (pc := 107) (-1) dX4_seekFirst_107 kc_m1 ?_
                refine s_sipush (pc := 108) 9331 dX4_seekFirst_108 ks_9331 ?_
                refine s_grd (fun o126 => ?_)
                refine s_bind (fun q127 hq128 => ?_)
                have hC129 := t_X2_spread (l := xl X) (G := xG X) hq128
                refine s_callV (pc := 111) (As := [.int (-1), .int 9331]) (st := []) (nlt rfl) (q := (RX2, TX2, 11)) rfl rfl o126 cl_X2_spread wi_X2_spread wl_X2_spread km_X4_50 rfl rfl (nle rfl) (nle rfl) (nle rfl) dX4_seekFirst_111 hC129 ?_
                have h130 := hC129.1 X
                have o131 := h130.ok o125
                have o132 := h130.ok o126
                show S0 X _ q127 114 [some (.ref (gh (xG X) + a0)), some (.int p1), some (.int s97.2), some (.ref (gh (xG X) + q121.2))] [] _
                refine s_aload_n (pc := 114) 0 dX4_seekFirst_114 rfl rfl ?_
                refine s_aload_n (pc := 115) 3 dX4_seekFirst_115 rfl rfl ?_
                refine s_geto (pc := 116) F_2 2 rfl o132 dX4_seekFirst_116 kf_X4_53 ?_
                refine s_rvB (fun r133 => ?_)
                refine s_bind (fun q134 hq135 => ?_)
                have hC136 := t_X4_addFrom (l := xl X) (G := xG X) hq135
                refine s_callV (pc := 119) (As := [.ref (gh (xG X) + r133)]) (st := []) (nlt rfl) (q := (RX4, TX4, 10)) rfl rfl o131 cl_X4_addFrom wi_X4_addFrom wl_X4_addFrom km_X4_85 rfl rfl (nle rfl) (nle rfl) (nle rfl) dX4_seekFirst_119 hC136 ?_
                have h137 := hC136.1 X
                have o138 := h137.ok o131
                have o139 := h137.ok o132
                show S0 X _ q134 122 [some (.ref (gh (xG X) + a0)), some (.int p1), some (.int s97.2), some (.ref (gh (xG X) + q121.2))] [] _
                exact s_drop (hj111 q134 (h124.tr (h130.tr h137))) (And.intro rfl (And.intro rfl (And.intro rfl trivial)))
      · refine s_nonnullT (pc := 43) 55 dX4_seekFirst_43 rfl ?_
        exact s_drop (hj89 M12 Le.rf) (And.intro rfl (And.intro rfl trivial))
  · refine s_icne (pc := 5) 23 dX4_seekFirst_5 rfl ?_ ?_
    · exact s_drop (hj5 () Le.rf) (And.intro rfl (And.intro rfl trivial))
    · refine s_aload_n (pc := 8) 0 dX4_seekFirst_8 rfl rfl ?_
      refine s_geti (pc := 9) F_4 6 rfl o1 dX4_seekFirst_9 kf_X4_60 ?_
      refine s_aload_n (pc := 12) 0 dX4_seekFirst_12 rfl rfl ?_
      refine s_geto (pc := 13) F_4 0 rfl o1 dX4_seekFirst_13 kf_X4_17 ?_
      refine s_rvB (fun r146 => ?_)
      refine s_grd (fun o147 => ?_)
      refine s_getiN (pc := 16) F_10 14 rfl o147 dX4_seekFirst_16 (List.mem_of_getElem? (i := 20) rfl) ?_
      refine s_icne (pc := 19) 23 dX4_seekFirst_19 rfl ?_ ?_
      · exact s_drop (hj5 () Le.rf) (And.intro rfl (And.intro rfl trivial))
      · exact s_vret rfl dX4_seekFirst_22
set_option maxRecDepth 100000 in
set_option maxHeartbeats 8000000 in
noncomputable def f_X4_stepsFrom (M : Mem) (a0 : Nat) (p1 : Int32) (p2 : Int32) (p3 : Int32) : Option (Mem × Int32) :=
  grd (okO M 4 a0) (Option.bind (f_X4_tableTo M a0 p2 p3) (fun q2 => grd (okO q2.1 2 q2.2) (Option.bind (f_X2_spread q2.1 q2.2 p1 9331) (fun q8 => Option.bind (mR q8 q2.2 2) (fun r14 => grd (okO q8 16 r14) (grd (vp_in p1 (mL q8 r14)) (some (q8, mI q8 r14 p1.toNatClampNeg))))))))
abbrev Y_X4_stepsFrom : Sta := (RX4, "stepsFrom", cX4_stepsFrom, 5, (some .int), 7)
set_option maxRecDepth 100000 in
set_option maxHeartbeats 8000000 in
theorem t_X4_stepsFrom {l : Launch} {G : Gh} {M : Mem} {a0 : Nat} {p1 : Int32} {p2 : Int32} {p3 : Int32} {q : Mem × Int32} (h : f_X4_stepsFrom M a0 p1 p2 p3 = some q) : Ctr l G yX4_stepsFrom Y_X4_stepsFrom M [.ref (gh G + a0), .int p1, .int p2, .int p3] q.1 (some (.int q.2)) := by
  refine Ctr.of (Y := Y_X4_stepsFrom) (L := [some (.ref (gh G + a0)), some (.int p1), some (.int p2), some (.int p3), none]) (t := Option.bind (f_X4_stepsFrom M a0 p1 p2 p3) (fun q => some (q.1, some (.int q.2)))) (by decide) rfl rfl (nle rfl) (Lof_in 1 _ rfl) (fun X hG hl => ?_) (by rw [h]; rfl)
  subst hG
  subst hl
  unfold f_X4_stepsFrom
  refine s_aload_n (pc := 0) 0 dX4_stepsFrom_0 rfl rfl ?_
  refine s_iload_n (pc := 1) 2 dX4_stepsFrom_1 rfl rfl ?_
  refine s_iload_n (pc := 2) 3 dX4_stepsFrom_2 rfl rfl ?_
  refine s_grd (fun o1 => ?_)
  refine s_bind (fun q2 hq3 => ?_)
  have hC4 := t_X4_tableTo (l := xl X) (G := xG X) hq3
  refine s_callV (pc := 3) (As := [.int p2, .int p3]) (st := []) (nlt rfl) (q := (RX4, TX4, 10)) rfl rfl o1 cl_X4_tableTo wi_X4_tableTo wl_X4_tableTo km_X4_46 rfl rfl (nle rfl) (nle rfl) (nle rfl) dX4_stepsFrom_3 hC4 ?_
  have h5 := hC4.1 X
  have o6 := h5.ok o1
  show S0 X _ q2.1 6 [some (.ref (gh (xG X) + a0)), some (.int p1), some (.int p2), some (.int p3), none] [.ref (gh (xG X) + q2.2)] _
  refine s_astore (pc := 6) dX4_stepsFrom_6 (nlt rfl) rfl (L' := [some (.ref (gh (xG X) + a0)), some (.int p1), some (.int p2), some (.int p3), some (.ref (gh (xG X) + q2.2))]) rfl ?_
  refine s_aload (pc := 8) dX4_stepsFrom_8 rfl ?_
  refine s_iload_n (pc := 10) 1 dX4_stepsFrom_10 rfl rfl ?_
  refine s_sipush (pc := 11) 9331 dX4_stepsFrom_11 ks_9331 ?_
  refine s_grd (fun o7 => ?_)
  refine s_bind (fun q8 hq9 => ?_)
  have hC10 := t_X2_spread (l := xl X) (G := xG X) hq9
  refine s_callV (pc := 14) (As := [.int p1, .int 9331]) (st := []) (nlt rfl) (q := (RX2, TX2, 11)) rfl rfl o7 cl_X2_spread wi_X2_spread wl_X2_spread km_X4_50 rfl rfl (nle rfl) (nle rfl) (nle rfl) dX4_stepsFrom_14 hC10 ?_
  have h11 := hC10.1 X
  have o12 := h11.ok o6
  have o13 := h11.ok o7
  show S0 X _ q8 17 [some (.ref (gh (xG X) + a0)), some (.int p1), some (.int p2), some (.int p3), some (.ref (gh (xG X) + q2.2))] [] _
  refine s_aload (pc := 17) dX4_stepsFrom_17 rfl ?_
  refine s_geto (pc := 19) F_2 2 rfl o13 dX4_stepsFrom_19 kf_X4_53 ?_
  refine s_rvB (fun r14 => ?_)
  refine s_iload_n (pc := 22) 1 dX4_stepsFrom_22 rfl rfl ?_
  refine s_grd (fun o15 => ?_)
  refine s_grd (fun i16 => ?_)
  refine s_sald (pc := 23) o15 i16 dX4_stepsFrom_23 ?_
  exact s_iret rfl dX4_stepsFrom_24
set_option maxRecDepth 100000 in
set_option maxHeartbeats 8000000 in
noncomputable def f_X7_cutTokens (M : Mem) (a0 : Nat) : Option Mem :=
  Option.bind (loopO (σ := Mem × Int32 × Int32) (ρ := Mem × Int32) (fun s1 => grd (okO s1.1 7 a0) (if (mI s1.1 a0 4) ≤ s1.2.2 then (some (.inr (s1.1, s1.2.1))) else (if 400 ≤ s1.2.1 then (some (.inr (s1.1, s1.2.1))) else (Option.bind (f_X7_kindAt s1.1 a0 s1.2.2) (fun q10 => bv (s1.2.2 + 1 : Int32) (fun x13 => Option.bind (loopO (σ := Int32) (ρ := Int32) (fun s14 => if q10 = 2 then (some (.inr s14)) else (if (mI s1.1 a0 4) ≤ s14 then (some (.inr s14)) else (Option.bind (f_X7_kindAt s1.1 a0 s14) (fun q22 => if q22 = q10 then (bv (s14 + 1 : Int32) (fun x25 => some (.inl x25))) else (some (.inr s14)))))) x13) (fun (x20 : Int32) => Option.bind (f_X7_byteAt s1.1 a0 s1.2.2) (fun q26 => bv (fun (s30 : Mem × Int32) => some (.inl (s30.1, s30.2, x20))) (fun j29 => if q26 = 32 then (j29 (s1.1, s1.2.1)) else (Option.bind (mR s1.1 a0 1) (fun r34 => Option.bind (f_X7_tokenOf s1.1 a0 q10 s1.2.2 x20) (fun q35 => grd (okO s1.1 14 r34) (grd (vp_in s1.2.1 (mL s1.1 r34)) (bv (wI s1.1 r34 s1.2.1.toNatClampNeg q35) (fun M40 => Option.bind (mR M40 a0 2) (fun r44 => grd (okO M40 14 r44) (grd (vp_in s1.2.1 (mL M40 r44)) (bv (wI M40 r44 s1.2.1.toNatClampNeg s1.2.2) (fun M47 => bv (s1.2.1 + 1 : Int32) (fun x51 => j29 (M47, x51))))))))))))))))))))) (M, 0, 0)) (fun (x7 : Mem × Int32) => grd (okO x7.1 7 a0) (Option.bind (mR x7.1 a0 1) (fun r53 => grd (okO x7.1 14 r53) (grd (vp_in x7.2 (mL x7.1 r53)) (bv (wI x7.1 r53 x7.2.toNatClampNeg 256) (fun M56 => Option.bind (mR M56 a0 2) (fun r60 => grd (okO M56 14 r60) (grd (vp_in x7.2 (mL M56 r60)) (bv (wI M56 r60 x7.2.toNatClampNeg (mI M56 a0 4)) (fun M63 => some M63))))))))))
abbrev Y_X7_cutTokens : Sta := (RX7, "cutTokens", cX7_cutTokens, 5, none, 7)
set_option maxRecDepth 100000 in
set_option maxHeartbeats 8000000 in
theorem t_X7_cutTokens {l : Launch} {G : Gh} {M : Mem} {a0 : Nat} {q : Mem} (h : f_X7_cutTokens M a0 = some q) : Ctr l G yX7_cutTokens Y_X7_cutTokens M [.ref (gh G + a0)] q (none) := by
  refine Ctr.of (Y := Y_X7_cutTokens) (L := [some (.ref (gh G + a0)), none, none, none, none]) (t := Option.bind (f_X7_cutTokens M a0) (fun q => some (q, (none : Option Value)))) (by decide) rfl rfl (nle rfl) (Lof_in 4 _ rfl) (fun X hG hl => ?_) (by rw [h]; rfl)
  subst hG
  subst hl
  unfold f_X7_cutTokens
  refine s_iconst (pc := 0) 0 dX7_cutTokens_0 kc_0 ?_
  refine s_istore_n (pc := 1) 1 dX7_cutTokens_1 rfl (nlt rfl) rfl (L' := [some (.ref (gh (xG X) + a0)), some (.int 0), none, none, none]) rfl ?_
  refine s_iconst (pc := 2) 0 dX7_cutTokens_2 kc_0 ?_
  refine s_istore_n (pc := 3) 2 dX7_cutTokens_3 rfl (nlt rfl) rfl (L' := [some (.ref (gh (xG X) + a0)), some (.int 0), some (.int 0), none, none]) rfl ?_
  refine s_drop (L' := [some (.ref (gh (xG X) + a0)), some (.int 0), some (.int 0), none, none]) ?_ (And.intro rfl (And.intro rfl (And.intro rfl trivial)))
  refine s_loop1 M (fun s1 : Mem × Int32 × Int32 => s1.1) (fun s1 : Mem × Int32 × Int32 => [some (.ref (gh (xG X) + a0)), some (.int s1.2.1), some (.int s1.2.2), none, none]) (fun x7 : Mem × Int32 => x7.1) 100 (fun x7 : Mem × Int32 => [some (.ref (gh (xG X) + a0)), some (.int x7.2), none, none, none]) (fun x7 hx8 => ?_) (fun T3 R5 hT4 hR6 s1 hs2 => ?_) (M, 0, 0) Le.rf
  · show S0 X _ x7.1 100 [some (.ref (gh (xG X) + a0)), some (.int x7.2), none, none, none] [] _
    refine s_aload_n (pc := 100) 0 dX7_cutTokens_100 rfl rfl ?_
    refine s_grd (fun o52 => ?_)
    refine s_geto (pc := 101) F_7 1 rfl o52 dX7_cutTokens_101 kf_X7_15 ?_
    refine s_rvB (fun r53 => ?_)
    refine s_iload_n (pc := 104) 1 dX7_cutTokens_104 rfl rfl ?_
    refine s_sipush (pc := 105) 256 dX7_cutTokens_105 ks_256 ?_
    refine s_grd (fun o54 => ?_)
    refine s_grd (fun i55 => ?_)
    refine s_iast (pc := 108) o54 i55 dX7_cutTokens_108 (fun M56 hM57 => ?_)
    have h58 := le_wI hM57
    have o59 := h58.ok o52
    refine s_aload_n (pc := 109) 0 dX7_cutTokens_109 rfl rfl ?_
    refine s_geto (pc := 110) F_7 2 rfl o59 dX7_cutTokens_110 kf_X7_18 ?_
    refine s_rvB (fun r60 => ?_)
    refine s_iload_n (pc := 113) 1 dX7_cutTokens_113 rfl rfl ?_
    refine s_aload_n (pc := 114) 0 dX7_cutTokens_114 rfl rfl ?_
    refine s_geti (pc := 115) F_7 4 rfl o59 dX7_cutTokens_115 kf_X7_34 ?_
    refine s_grd (fun o61 => ?_)
    refine s_grd (fun i62 => ?_)
    refine s_iast (pc := 118) o61 i62 dX7_cutTokens_118 (fun M63 hM64 => ?_)
    have h65 := le_wI hM64
    have o66 := h65.ok o59
    exact s_vret rfl dX7_cutTokens_119
  · show S0 X _ s1.1 4 [some (.ref (gh (xG X) + a0)), some (.int s1.2.1), some (.int s1.2.2), none, none] [] _
    refine s_iload_n (pc := 4) 2 dX7_cutTokens_4 rfl rfl ?_
    refine s_aload_n (pc := 5) 0 dX7_cutTokens_5 rfl rfl ?_
    refine s_grd (fun o9 => ?_)
    refine s_geti (pc := 6) F_7 4 rfl o9 dX7_cutTokens_6 kf_X7_34 ?_
    refine s_icge (pc := 9) 100 dX7_cutTokens_9 rfl ?_ ?_
    · exact s_drop (hR6 (s1.1, s1.2.1) hs2) (And.intro rfl (And.intro rfl trivial))
    · refine s_iload_n (pc := 12) 1 dX7_cutTokens_12 rfl rfl ?_
      refine s_sipush (pc := 13) 400 dX7_cutTokens_13 ks_400 ?_
      refine s_icge (pc := 16) 100 dX7_cutTokens_16 rfl ?_ ?_
      · exact s_drop (hR6 (s1.1, s1.2.1) hs2) (And.intro rfl (And.intro rfl trivial))
      · refine s_aload_n (pc := 19) 0 dX7_cutTokens_19 rfl rfl ?_
        refine s_iload_n (pc := 20) 2 dX7_cutTokens_20 rfl rfl ?_
        refine s_bind (fun q10 hq11 => ?_)
        have hC12 := t_X7_kindAt (l := xl X) (G := xG X) hq11
        refine s_callV (pc := 21) (As := [.int s1.2.2]) (st := []) (nlt rfl) (q := (RX7, TX7, 10)) rfl rfl o9 cl_X7_kindAt wi_X7_kindAt wl_X7_kindAt km_X7_82 rfl rfl (nle rfl) (nle rfl) (nle rfl) dX7_cutTokens_21 hC12 ?_
        show S0 X _ s1.1 24 [some (.ref (gh (xG X) + a0)), some (.int s1.2.1), some (.int s1.2.2), none, none] [.int q10] _
        refine s_istore_n (pc := 24) 3 dX7_cutTokens_24 rfl (nlt rfl) rfl (L' := [some (.ref (gh (xG X) + a0)), some (.int s1.2.1), some (.int s1.2.2), some (.int q10), none]) rfl ?_
        refine s_iload_n (pc := 25) 2 dX7_cutTokens_25 rfl rfl ?_
        refine s_iconst (pc := 26) 1 dX7_cutTokens_26 kc_1 ?_
        refine s_iadd (pc := 27) dX7_cutTokens_27 ?_
        refine s_istore (pc := 28) dX7_cutTokens_28 (nlt rfl) rfl (L' := [some (.ref (gh (xG X) + a0)), some (.int s1.2.1), some (.int s1.2.2), some (.int q10), some (.int (s1.2.2 + 1))]) rfl ?_
        refine s_bv (fun x13 : Int32 => [some (.ref (gh (xG X) + a0)), some (.int s1.2.1), some (.int s1.2.2), some (.int q10), some (.int x13)]) (fun x13 => ?_) rfl
        refine s_drop (L' := [some (.ref (gh (xG X) + a0)), some (.int s1.2.1), some (.int s1.2.2), some (.int q10), some (.int x13)]) ?_ (And.intro rfl (And.intro rfl (And.intro rfl (And.intro rfl (And.intro rfl trivial)))))
        refine s_loop1 s1.1 (fun s14 : Int32 => s1.1) (fun s14 : Int32 => [some (.ref (gh (xG X) + a0)), some (.int s1.2.1), some (.int s1.2.2), some (.int q10), some (.int s14)]) (fun x20 : Int32 => s1.1) 60 (fun x20 : Int32 => [some (.ref (gh (xG X) + a0)), some (.int s1.2.1), some (.int s1.2.2), some (.int q10), some (.int x20)]) (fun x20 hx21 => ?_) (fun T16 R18 hT17 hR19 s14 hs15 => ?_) x13 Le.rf
        · show S0 X _ s1.1 60 [some (.ref (gh (xG X) + a0)), some (.int s1.2.1), some (.int s1.2.2), some (.int q10), some (.int x20)] [] _
          refine s_aload_n (pc := 60) 0 dX7_cutTokens_60 rfl rfl ?_
          refine s_iload_n (pc := 61) 2 dX7_cutTokens_61 rfl rfl ?_
          refine s_bind (fun q26 hq27 => ?_)
          have hC28 := t_X7_byteAt (l := xl X) (G := xG X) hq27
          refine s_callV (pc := 62) (As := [.int s1.2.2]) (st := []) (nlt rfl) (q := (RX7, TX7, 10)) rfl rfl o9 cl_X7_byteAt wi_X7_byteAt wl_X7_byteAt km_X7_41 rfl rfl (nle rfl) (nle rfl) (nle rfl) dX7_cutTokens_62 hC28 ?_
          show S0 X _ s1.1 65 [some (.ref (gh (xG X) + a0)), some (.int s1.2.1), some (.int s1.2.2), some (.int q10), some (.int x20)] [.int q26] _
          refine s_bipush (pc := 65) 32 dX7_cutTokens_65 kb_32 ?_
          refine s_join s1.1 (fun s30 : Mem × Int32 => s30.1) 94 (fun s30 : Mem × Int32 => [some (.ref (gh (xG X) + a0)), some (.int s30.2), none, none, some (.int x20)]) (fun s30 : Mem × Int32 => []) (fun s30 hs31 => ?_) (fun j29 hj32 => ?_)
          · show S0 X _ s30.1 94 [some (.ref (gh (xG X) + a0)), some (.int s30.2), none, none, some (.int x20)] [] _
            have o33 := hs31.ok o9
            refine s_iload (pc := 94) dX7_cutTokens_94 rfl ?_
            refine s_istore_n (pc := 96) 2 dX7_cutTokens_96 rfl (nlt rfl) rfl (L' := [some (.ref (gh (xG X) + a0)), some (.int s30.2), some (.int x20), none, some (.int x20)]) rfl ?_
            refine s_goto (pc := 97) 4 dX7_cutTokens_97 rfl ?_
            exact s_drop (hT4 (s30.1, s30.2, x20) (hs2.tr hs31)) (And.intro rfl (And.intro rfl (And.intro rfl trivial)))
          · refine s_iceq (pc := 67) 94 dX7_cutTokens_67 rfl ?_ ?_
            · exact s_drop (hj32 (s1.1, s1.2.1) Le.rf) (And.intro rfl (And.intro rfl (And.intro rfl trivial)))
            · refine s_aload_n (pc := 70) 0 dX7_cutTokens_70 rfl rfl ?_
              refine s_geto (pc := 71) F_7 1 rfl o9 dX7_cutTokens_71 kf_X7_15 ?_
              refine s_rvB (fun r34 => ?_)
              refine s_iload_n (pc := 74) 1 dX7_cutTokens_74 rfl rfl ?_
              refine s_aload_n (pc := 75) 0 dX7_cutTokens_75 rfl rfl ?_
              refine s_iload_n (pc := 76) 3 dX7_cutTokens_76 rfl rfl ?_
              refine s_iload_n (pc := 77) 2 dX7_cutTokens_77 rfl rfl ?_
              refine s_iload (pc := 78) dX7_cutTokens_78 rfl ?_
              refine s_bind (fun q35 hq36 => ?_)
              have hC37 := t_X7_tokenOf (l := xl X) (G := xG X) hq36
              refine s_callV (pc := 80) (As := [.int q10, .int s1.2.2, .int x20]) (st := [.int s1.2.1, .ref (gh (xG X) + r34)]) (nlt rfl) (q := (RX7, TX7, 10)) rfl rfl o9 cl_X7_tokenOf wi_X7_tokenOf wl_X7_tokenOf km_X7_85 rfl rfl (nle rfl) (nle rfl) (nle rfl) dX7_cutTokens_80 hC37 ?_
              show S0 X _ s1.1 83 [some (.ref (gh (xG X) + a0)), some (.int s1.2.1), some (.int s1.2.2), some (.int q10), some (.int x20)] [.int q35, .int s1.2.1, .ref (gh (xG X) + r34)] _
              refine s_grd (fun o38 => ?_)
              refine s_grd (fun i39 => ?_)
              refine s_iast (pc := 83) o38 i39 dX7_cutTokens_83 (fun M40 hM41 => ?_)
              have h42 := le_wI hM41
              have o43 := h42.ok o9
              refine s_aload_n (pc := 84) 0 dX7_cutTokens_84 rfl rfl ?_
              refine s_geto (pc := 85) F_7 2 rfl o43 dX7_cutTokens_85 kf_X7_18 ?_
              refine s_rvB (fun r44 => ?_)
              refine s_iload_n (pc := 88) 1 dX7_cutTokens_88 rfl rfl ?_
              refine s_iload_n (pc := 89) 2 dX7_cutTokens_89 rfl rfl ?_
              refine s_grd (fun o45 => ?_)
              refine s_grd (fun i46 => ?_)
              refine s_iast (pc := 90) o45 i46 dX7_cutTokens_90 (fun M47 hM48 => ?_)
              have h49 := le_wI hM48
              have o50 := h49.ok o43
              refine s_iinc (pc := 91) dX7_cutTokens_91 rfl (v := s1.2.1 + 1) (congrArg (fun z : Int32 => s1.2.1 + z) kc_1) (nlt rfl) rfl (L' := [some (.ref (gh (xG X) + a0)), some (.int (s1.2.1 + 1)), some (.int s1.2.2), some (.int q10), some (.int x20)]) rfl ?_
              refine s_bv (fun x51 : Int32 => [some (.ref (gh (xG X) + a0)), some (.int x51), some (.int s1.2.2), some (.int q10), some (.int x20)]) (fun x51 => ?_) rfl
              exact s_drop (hj32 (M47, x51) (h42.tr h49)) (And.intro rfl (And.intro rfl (And.intro rfl trivial)))
        · show S0 X _ s1.1 30 [some (.ref (gh (xG X) + a0)), some (.int s1.2.1), some (.int s1.2.2), some (.int q10), some (.int s14)] [] _
          refine s_iload_n (pc := 30) 3 dX7_cutTokens_30 rfl rfl ?_
          refine s_iconst (pc := 31) 2 dX7_cutTokens_31 kc_2 ?_
          refine s_iceq (pc := 32) 60 dX7_cutTokens_32 rfl ?_ ?_
          · exact s_drop (hR19 s14 Le.rf) (And.intro rfl (And.intro rfl (And.intro rfl (And.intro rfl (And.intro rfl trivial)))))
          · refine s_iload (pc := 35) dX7_cutTokens_35 rfl ?_
            refine s_aload_n (pc := 37) 0 dX7_cutTokens_37 rfl rfl ?_
            refine s_geti (pc := 38) F_7 4 rfl o9 dX7_cutTokens_38 kf_X7_34 ?_
            refine s_icge (pc := 41) 60 dX7_cutTokens_41 rfl ?_ ?_
            · exact s_drop (hR19 s14 Le.rf) (And.intro rfl (And.intro rfl (And.intro rfl (And.intro rfl (And.intro rfl trivial)))))
            · refine s_aload_n (pc := 44) 0 dX7_cutTokens_44 rfl rfl ?_
              refine s_iload (pc := 45) dX7_cutTokens_45 rfl ?_
              refine s_bind (fun q22 hq23 => ?_)
              have hC24 := t_X7_kindAt (l := xl X) (G := xG X) hq23
              refine s_callV (pc := 47) (As := [.int s14]) (st := []) (nlt rfl) (q := (RX7, TX7, 10)) rfl rfl o9 cl_X7_kindAt wi_X7_kindAt wl_X7_kindAt km_X7_82 rfl rfl (nle rfl) (nle rfl) (nle rfl) dX7_cutTokens_47 hC24 ?_
              show S0 X _ s1.1 50 [some (.ref (gh (xG X) + a0)), some (.int s1.2.1), some (.int s1.2.2), some (.int q10), some (.int s14)] [.int q22] _
              refine s_iload_n (pc := 50) 3 dX7_cutTokens_50 rfl rfl ?_
              refine s_icne (pc := 51) 60 dX7_cutTokens_51 rfl ?_ ?_
              · exact s_drop (hR19 s14 Le.rf) (And.intro rfl (And.intro rfl (And.intro rfl (And.intro rfl (And.intro rfl trivial)))))
              · refine s_iinc (pc := 54) dX7_cutTokens_54 rfl (v := s14 + 1) (congrArg (fun z : Int32 => s14 + z) kc_1) (nlt rfl) rfl (L' := [some (.ref (gh (xG X) + a0)), some (.int s1.2.1), some (.int s1.2.2), some (.int q10), some (.int (s14 + 1))]) rfl ?_
                refine s_bv (fun x25 : Int32 => [some (.ref (gh (xG X) + a0)), some (.int s1.2.1), some (.int s1.2.2), some (.int q10), some (.int x25)]) (fun x25 => ?_) rfl
                refine s_goto (pc := 57) 30 dX7_cutTokens_57 rfl ?_
                exact s_drop (hT17 x25 Le.rf) (And.intro rfl (And.intro rfl (And.intro rfl (And.intro rfl (And.intro rfl trivial)))))
set_option maxRecDepth 100000 in
set_option maxHeartbeats 8000000 in
noncomputable def f_X11_at (M : Mem) (a0 : Nat) (p1 : Int32) (p2 : Int32) : Option (Mem × Int32) :=
  grd (okO M 11 a0) (Option.bind (mR M a0 0) (fun r2 => grd (okO M 10 r2) (Option.bind (f_X10_hasHouse M r2 p1) (fun q4 => if q4 = 0 then (some (M, (-1))) else (Option.bind (mR M a0 0) (fun r7 => grd (okO M 10 r7) (Option.bind (mR M r7 3) (fun r9 => grd (okO M 14 r9) (grd (vp_in p1 (mL M r9)) (bv (mI M r9 p1.toNatClampNeg : Int32) (fun x12 => swO p2 (swC 0 [(64, some (M, x12)), (66, Option.bind (mR M a0 0) (fun r13 => grd (okO M 10 r13) (Option.bind (mR M r13 4) (fun r15 => grd (okO M 14 r15) (grd (vp_in p1 (mL M r15)) (some (M, mI M r15 p1.toNatClampNeg))))))), (76, Option.bind (mR M a0 0) (fun r18 => grd (okO M 10 r18) (Option.bind (mR M r18 5) (fun r20 => grd (okO M 14 r20) (grd (vp_in p1 (mL M r20)) (Option.bind (f_X6_numberOf (mI M r20 p1.toNatClampNeg)) (fun q23 => some (M, q23)))))))), (89, Option.bind (mR M a0 0) (fun r26 => grd (okO M 10 r26) (Option.bind (f_X10_daughtersOf M r26 p1) (fun q28 => some (M, q28))))), (98, Option.bind (mR M a0 0) (fun r31 => grd (okO M 10 r31) (Option.bind (f_X10_hasHouse M r31 x12) (fun q33 => if q33 = 0 then (some (M, (-1))) else (Option.bind (mR M a0 6) (fun r36 => Option.bind (mR M a0 0) (fun r37 => grd (okO M 10 r37) (Option.bind (mR M r37 5) (fun r39 => grd (okO M 14 r39) (grd (vp_in x12 (mL M r39)) (Option.bind (mR M a0 0) (fun r42 => grd (okO M 10 r42) (Option.bind (mR M r42 5) (fun r44 => grd (okO M 14 r44) (grd (vp_in p1 (mL M r44)) (Option.bind (mR M a0 0) (fun r47 => grd (okO M 10 r47) (Option.bind (mR M r47 4) (fun r49 => grd (okO M 14 r49) (grd (vp_in p1 (mL M r49)) (grd (okO M 4 r36) (Option.bind (f_X4_stepsFrom M r36 (mI M r39 x12.toNatClampNeg) (mI M r44 p1.toNatClampNeg) (mI M r49 p1.toNatClampNeg)) (fun q53 => some (q53.1, q53.2)))))))))))))))))))))))), (148, Option.bind (mR M a0 0) (fun r58 => grd (okO M 10 r58) (Option.bind (f_X10_changedBack M r58 p1) (fun q60 => some (M, q60)))))]) (some (M, (-1))))))))))))))
abbrev Y_X11_at : Sta := (RX11, "at", cX11_at, 4, (some .int), 8)
set_option maxRecDepth 100000 in
set_option maxHeartbeats 8000000 in
theorem t_X11_at {l : Launch} {G : Gh} {M : Mem} {a0 : Nat} {p1 : Int32} {p2 : Int32} {q : Mem × Int32} (h : f_X11_at M a0 p1 p2 = some q) : Ctr l G yX11_at Y_X11_at M [.ref (gh G + a0), .int p1, .int p2] q.1 (some (.int q.2)) := by
  refine Ctr.of (Y := Y_X11_at) (L := [some (.ref (gh G + a0)), some (.int p1), some (.int p2), none]) (t := Option.bind (f_X11_at M a0 p1 p2) (fun q => some (q.1, some (.int q.2)))) (by decide) rfl rfl (nle rfl) (Lof_in 1 _ rfl) (fun X hG hl => ?_) (by rw [h]; rfl)
  subst hG
  subst hl
  unfold f_X11_at
  refine s_aload_n (pc := 0) 0 dX11_at_0 rfl rfl ?_
  refine s_grd (fun o1 => ?_)
  refine s_geto (pc := 1) F_11 0 rfl o1 dX11_at_1 kf_X11_10 ?_
  refine s_rvB (fun r2 => ?_)
  refine s_iload_n (pc := 4) 1 dX11_at_4 rfl rfl ?_
  refine s_grd (fun o3 => ?_)
  refine s_bind (fun q4 hq5 => ?_)
  have hC6 := t_X10_hasHouse (l := xl X) (G := xG X) hq5
  refine s_callV (pc := 5) (As := [.int p1]) (st := []) (nlt rfl) (q := (RX10, TX10, 15)) rfl rfl o3 cl_X10_hasHouse wi_X10_hasHouse wl_X10_hasHouse km_X11_119 rfl rfl (nle rfl) (nle rfl) (nle rfl) dX11_at_5 hC6 ?_
  show S0 X _ M 8 [some (.ref (gh (xG X) + a0)), some (.int p1), some (.int p2), none] [.int q4] _
  refine s_ifne (pc := 8) 13 dX11_at_8 rfl ?_ ?_
  · refine s_aload_n (pc := 13) 0 dX11_at_13 rfl rfl ?_
    refine s_geto (pc := 14) F_11 0 rfl o1 dX11_at_14 kf_X11_10 ?_
    refine s_rvB (fun r7 => ?_)
    refine s_grd (fun o8 => ?_)
    refine s_getoN (pc := 17) F_10 3 rfl o8 dX11_at_17 (List.mem_of_getElem? (i := 4) rfl) ?_
    refine s_rvB (fun r9 => ?_)
    refine s_iload_n (pc := 20) 1 dX11_at_20 rfl rfl ?_
    refine s_grd (fun o10 => ?_)
    refine s_grd (fun i11 => ?_)
    refine s_iald (pc := 21) o10 i11 dX11_at_21 ?_
    refine s_istore_n (pc := 22) 3 dX11_at_22 rfl (nlt rfl) rfl (L' := [some (.ref (gh (xG X) + a0)), some (.int p1), some (.int p2), some (.int (mI M r9 p1.toNatClampNeg))]) rfl ?_
    refine s_bv (fun x12 : Int32 => [some (.ref (gh (xG X) + a0)), some (.int p1), some (.int p2), some (.int x12)]) (fun x12 => ?_) rfl
    refine s_iload_n (pc := 23) 2 dX11_at_23 rfl rfl ?_
    refine s_tsw (pc := 24) _ 157 dX11_at_24 rfl rfl (And.intro (by decide) (And.intro (by simp only [List.length_cons, List.length_nil]; decide) rfl)) ?_ ?_
    · refine (And.intro ?_ (And.intro ?_ (And.intro ?_ (And.intro ?_ (And.intro ?_ (And.intro ?_ trivial))))))
      · dsimp only
        refine s_iload_n (pc := 64) 3 dX11_at_64 rfl rfl ?_
        exact s_iret rfl dX11_at_65
      · dsimp only
        refine s_aload_n (pc := 66) 0 dX11_at_66 rfl rfl ?_
        refine s_geto (pc := 67) F_11 0 rfl o1 dX11_at_67 kf_X11_10 ?_
        refine s_rvB (fun r13 => ?_)
        refine s_grd (fun o14 => ?_)
        refine s_getoN (pc := 70) F_10 4 rfl o14 dX11_at_70 (List.mem_of_getElem? (i := 5) rfl) ?_
        refine s_rvB (fun r15 => ?_)
        refine s_iload_n (pc := 73) 1 dX11_at_73 rfl rfl ?_
        refine s_grd (fun o16 => ?_)
        refine s_grd (fun i17 => ?_)
        refine s_iald (pc := 74) o16 i17 dX11_at_74 ?_
        exact s_iret rfl dX11_at_75
      · dsimp only
        refine s_aload_n (pc := 76) 0 dX11_at_76 rfl rfl ?_
        refine s_geto (pc := 77) F_11 0 rfl o1 dX11_at_77 kf_X11_10 ?_
        refine s_rvB (fun r18 => ?_)
        refine s_grd (fun o19 => ?_)
        refine s_getoN (pc := 80) F_10 5 rfl o19 dX11_at_80 (List.mem_of_getElem? (i := 7) rfl) ?_
        refine s_rvB (fun r20 => ?_)
        refine s_iload_n (pc := 83) 1 dX11_at_83 rfl rfl ?_
        refine s_grd (fun o21 => ?_)
        refine s_grd (fun i22 => ?_)
        refine s_iald (pc := 84) o21 i22 dX11_at_84 ?_
        refine s_bind (fun q23 hq24 => ?_)
        have hC25 := t_X6_numberOf (l := xl X) (G := xG X) (M := M) hq24
        refine s_callS (pc := 85) (As := [.int (mI M r20 p1.toNatClampNeg)]) (st := []) cl_X6_numberOf wt_X6_numberOf km_X11_146 rfl rfl (nle rfl) (nle rfl) (nle rfl) dX11_at_85 hC25 ?_
        show S0 X _ M 88 [some (.ref (gh (xG X) + a0)), some (.int p1), some (.int p2), some (.int x12)] [.int q23] _
        exact s_iret rfl dX11_at_88
      · dsimp only
        refine s_aload_n (pc := 89) 0 dX11_at_89 rfl rfl ?_
        refine s_geto (pc := 90) F_11 0 rfl o1 dX11_at_90 kf_X11_10 ?_
        refine s_rvB (fun r26 => ?_)
        refine s_iload_n (pc := 93) 1 dX11_at_93 rfl rfl ?_
        refine s_grd (fun o27 => ?_)
        refine s_bind (fun q28 hq29 => ?_)
        have hC30 := t_X10_daughtersOf (l := xl X) (G := xG X) hq29
        refine s_callV (pc := 94) (As := [.int p1]) (st := []) (nlt rfl) (q := (RX10, TX10, 15)) rfl rfl o27 cl_X10_daughtersOf wi_X10_daughtersOf wl_X10_daughtersOf km_X11_152 rfl rfl (nle rfl) (nle rfl) (nle rfl) dX11_at_94 hC30 ?_
        show S0 X _ M 97 [some (.ref (gh (xG X) + a0)), some (.int p1), some (.int p2), some (.int x12)] [.int q28] _
        exact s_iret rfl dX11_at_97
      · dsimp only
        refine s_aload_n (pc := 98) 0 dX11_at_98 rfl rfl ?_
        refine s_geto (pc := 99) F_11 0 rfl o1 dX11_at_99 kf_X11_10 ?_
        refine s_rvB (fun r31 => ?_)
        refine s_iload_n (pc := 102) 3 dX11_at_102 rfl rfl ?_
        refine s_grd (fun o32 => ?_)
        refine s_bind (fun q33 hq34 => ?_)
        have hC35 := t_X10_hasHouse (l := xl X) (G := xG X) hq34
        refine s_callV (pc := 103) (As := [.int x12]) (st := []) (nlt rfl) (q := (RX10, TX10, 15)) rfl rfl o32 cl_X10_hasHouse wi_X10_hasHouse wl_X10_hasHouse km_X11_119 rfl rfl (nle rfl) (nle rfl) (nle rfl) dX11_at_103 hC35 ?_
        show S0 X _ M 106 [some (.ref (gh (xG X) + a0)), some (.int p1), some (.int p2), some (.int x12)] [.int q33] _
        refine s_ifne (pc := 106) 113 dX11_at_106 rfl ?_ ?_
        · refine s_aload_n (pc := 113) 0 dX11_at_113 rfl rfl ?_
          refine s_geto (pc := 114) F_11 6 rfl o1 dX11_at_114 kf_X11_55 ?_
          refine s_rvB (fun r36 => ?_)
          refine s_aload_n (pc := 117) 0 dX11_at_117 rfl rfl ?_
          refine s_geto (pc := 118) F_11 0 rfl o1 dX11_at_118 kf_X11_10 ?_
          refine s_rvB (fun r37 => ?_)
          refine s_grd (fun o38 => ?_)
          refine s_getoN (pc := 121) F_10 5 rfl o38 dX11_at_121 (List.mem_of_getElem? (i := 7) rfl) ?_
          refine s_rvB (fun r39 => ?_)
          refine s_iload_n (pc := 124) 3 dX11_at_124 rfl rfl ?_
          refine s_grd (fun o40 => ?_)
          refine s_grd (fun i41 => ?_)
          refine s_iald (pc := 125) o40 i41 dX11_at_125 ?_
          refine s_aload_n (pc := 126) 0 dX11_at_126 rfl rfl ?_
          refine s_geto (pc := 127) F_11 0 rfl o1 dX11_at_127 kf_X11_10 ?_
          refine s_rvB (fun r42 => ?_)
          refine s_grd (fun o43 => ?_)
          refine s_getoN (pc := 130) F_10 5 rfl o43 dX11_at_130 (List.mem_of_getElem? (i := 7) rfl) ?_
          refine s_rvB (fun r44 => ?_)
          refine s_iload_n (pc := 133) 1 dX11_at_133 rfl rfl ?_
          refine s_grd (fun o45 => ?_)
          refine s_grd (fun i46 => ?_)
          refine s_iald (pc := 134) o45 i46 dX11_at_134 ?_
          refine s_aload_n (pc := 135) 0 dX11_at_135 rfl rfl ?_
          refine s_geto (pc := 136) F_11 0 rfl o1 dX11_at_136 kf_X11_10 ?_
          refine s_rvB (fun r47 => ?_)
          refine s_grd (fun o48 => ?_)
          refine s_getoN (pc := 139) F_10 4 rfl o48 dX11_at_139 (List.mem_of_getElem? (i := 5) rfl) ?_
          refine s_rvB (fun r49 => ?_)
          refine s_iload_n (pc := 142) 1 dX11_at_142 rfl rfl ?_
          refine s_grd (fun o50 => ?_)
          refine s_grd (fun i51 => ?_)
          refine s_iald (pc := 143) o50 i51 dX11_at_143 ?_
          refine s_grd (fun o52 => ?_)
          refine s_bind (fun q53 hq54 => ?_)
          have hC55 := t_X4_stepsFrom (l := xl X) (G := xG X) hq54
          refine s_callV (pc := 144) (As := [.int (mI M r39 x12.toNatClampNeg), .int (mI M r44 p1.toNatClampNeg), .int (mI M r49 p1.toNatClampNeg)]) (st := []) (nlt rfl) (q := (RX4, TX4, 10)) rfl rfl o52 cl_X4_stepsFrom wi_X4_stepsFrom wl_X4_stepsFrom km_X11_155 rfl rfl (nle rfl) (nle rfl) (nle rfl) dX11_at_144 hC55 ?_
          have h56 := hC55.1 X
          have o57 := h56.ok o1
          show S0 X _ q53.1 147 [some (.ref (gh (xG X) + a0)), some (.int p1), some (.int p2), some (.int x12)] [.int q53.2] _
          exact s_iret rfl dX11_at_147
        · refine s_iconst (pc := 109) (-1) dX11_at_109 kc_m1 ?_
          refine s_goto (pc := 110) 147 dX11_at_110 rfl ?_
          exact s_iret rfl dX11_at_147
      · dsimp only
        refine s_aload_n (pc := 148) 0 dX11_at_148 rfl rfl ?_
        refine s_geto (pc := 149) F_11 0 rfl o1 dX11_at_149 kf_X11_10 ?_
        refine s_rvB (fun r58 => ?_)
        refine s_iload_n (pc := 152) 1 dX11_at_152 rfl rfl ?_
        refine s_grd (fun o59 => ?_)
        refine s_bind (fun q60 hq61 => ?_)
        have hC62 := t_X10_changedBack (l := xl X) (G := xG X) hq61
        refine s_callV (pc := 153) (As := [.int p1]) (st := []) (nlt rfl) (q := (RX10, TX10, 15)) rfl rfl o59 cl_X10_changedBack wi_X10_changedBack wl_X10_changedBack km_X11_158 rfl rfl (nle rfl) (nle rfl) (nle rfl) dX11_at_153 hC62 ?_
        show S0 X _ M 156 [some (.ref (gh (xG X) + a0)), some (.int p1), some (.int p2), some (.int x12)] [.int q60] _
        exact s_iret rfl dX11_at_156
    · refine s_iconst (pc := 157) (-1) dX11_at_157 kc_m1 ?_
      exact s_iret rfl dX11_at_158
  · refine s_iconst (pc := 11) (-1) dX11_at_11 kc_m1 ?_
    exact s_iret rfl dX11_at_12
set_option maxRecDepth 100000 in
set_option maxHeartbeats 8000000 in
noncomputable def f_X11_first (M : Mem) (a0 : Nat) (p1 : Int32) (p2 : Int32) : Option (Mem × Int32) :=
  grd (okO M 11 a0) (Option.bind (mR M a0 0) (fun r2 => grd (okO M 10 r2) (Option.bind (f_X10_toldOf M r2 p1) (fun q4 => if q4 = 0 then (some (M, (-1))) else (Option.bind (mR M a0 6) (fun r7 => grd (okO M 4 r7) (Option.bind (f_X4_seekFirst M r7 q4) (fun q9 => Option.bind (mR q9 a0 6) (fun r14 => grd (okO q9 4 r14) (if (mI q9 r14 7) = (-1) then (some (q9, (-1))) else (swO p2 (swC 0 [(64, Option.bind (mR q9 a0 6) (fun r16 => grd (okO q9 4 r16) (some (q9, mI q9 r16 7)))), (72, Option.bind (mR q9 a0 6) (fun r18 => grd (okO q9 4 r18) (some (q9, mI q9 r18 8)))), (80, Option.bind (mR q9 a0 6) (fun r20 => grd (okO q9 4 r20) (Option.bind (f_X6_numberOf (mI q9 r20 9)) (fun q22 => some (q9, q22)))))]) (some (q9, (-1))))))))))))))
abbrev Y_X11_first : Sta := (RX11, "first", cX11_first, 4, (some .int), 8)
set_option maxRecDepth 100000 in
set_option maxHeartbeats 8000000 in
theorem t_X11_first {l : Launch} {G : Gh} {M : Mem} {a0 : Nat} {p1 : Int32} {p2 : Int32} {q : Mem × Int32} (h : f_X11_first M a0 p1 p2 = some q) : Ctr l G yX11_first Y_X11_first M [.ref (gh G + a0), .int p1, .int p2] q.1 (some (.int q.2)) := by
  refine Ctr.of (Y := Y_X11_first) (L := [some (.ref (gh G + a0)), some (.int p1), some (.int p2), none]) (t := Option.bind (f_X11_first M a0 p1 p2) (fun q => some (q.1, some (.int q.2)))) (by decide) rfl rfl (nle rfl) (Lof_in 1 _ rfl) (fun X hG hl => ?_) (by rw [h]; rfl)
  subst hG
  subst hl
  unfold f_X11_first
  refine s_aload_n (pc := 0) 0 dX11_first_0 rfl rfl ?_
  refine s_grd (fun o1 => ?_)
  refine s_geto (pc := 1) F_11 0 rfl o1 dX11_first_1 kf_X11_10 ?_
  refine s_rvB (fun r2 => ?_)
  refine s_iload_n (pc := 4) 1 dX11_first_4 rfl rfl ?_
  refine s_grd (fun o3 => ?_)
  refine s_bind (fun q4 hq5 => ?_)
  have hC6 := t_X10_toldOf (l := xl X) (G := xG X) hq5
  refine s_callV (pc := 5) (As := [.int p1]) (st := []) (nlt rfl) (q := (RX10, TX10, 15)) rfl rfl o3 cl_X10_toldOf wi_X10_toldOf wl_X10_toldOf km_X11_276 rfl rfl (nle rfl) (nle rfl) (nle rfl) dX11_first_5 hC6 ?_
  show S0 X _ M 8 [some (.ref (gh (xG X) + a0)), some (.int p1), some (.int p2), none] [.int q4] _
  refine s_istore_n (pc := 8) 3 dX11_first_8 rfl (nlt rfl) rfl (L' := [some (.ref (gh (xG X) + a0)), some (.int p1), some (.int p2), some (.int q4)]) rfl ?_
  refine s_iload_n (pc := 9) 3 dX11_first_9 rfl rfl ?_
  refine s_ifne (pc := 10) 15 dX11_first_10 rfl ?_ ?_
  · refine s_aload_n (pc := 15) 0 dX11_first_15 rfl rfl ?_
    refine s_geto (pc := 16) F_11 6 rfl o1 dX11_first_16 kf_X11_55 ?_
    refine s_rvB (fun r7 => ?_)
    refine s_iload_n (pc := 19) 3 dX11_first_19 rfl rfl ?_
    refine s_grd (fun o8 => ?_)
    refine s_bind (fun q9 hq10 => ?_)
    have hC11 := t_X4_seekFirst (l := xl X) (G := xG X) hq10
    refine s_callV (pc := 20) (As := [.int q4]) (st := []) (nlt rfl) (q := (RX4, TX4, 10)) rfl rfl o8 cl_X4_seekFirst wi_X4_seekFirst wl_X4_seekFirst km_X11_279 rfl rfl (nle rfl) (nle rfl) (nle rfl) dX11_first_20 hC11 ?_
    have h12 := hC11.1 X
    have o13 := h12.ok o1
    show S0 X _ q9 23 [some (.ref (gh (xG X) + a0)), some (.int p1), some (.int p2), some (.int q4)] [] _
    refine s_aload_n (pc := 23) 0 dX11_first_23 rfl rfl ?_
    refine s_geto (pc := 24) F_11 6 rfl o13 dX11_first_24 kf_X11_55 ?_
    refine s_rvB (fun r14 => ?_)
    refine s_grd (fun o15 => ?_)
    refine s_geti (pc := 27) F_4 7 rfl o15 dX11_first_27 kf_X11_282 ?_
    refine s_iconst (pc := 30) (-1) dX11_first_30 kc_m1 ?_
    refine s_icne (pc := 31) 36 dX11_first_31 rfl ?_ ?_
    · refine s_iload_n (pc := 36) 2 dX11_first_36 rfl rfl ?_
      refine s_tsw (pc := 37) _ 91 dX11_first_37 rfl rfl (And.intro (by decide) (And.intro (by simp only [List.length_cons, List.length_nil]; decide) rfl)) ?_ ?_
      · refine (And.intro ?_ (And.intro ?_ (And.intro ?_ trivial)))
        · dsimp only
          refine s_aload_n (pc := 64) 0 dX11_first_64 rfl rfl ?_
          refine s_geto (pc := 65) F_11 6 rfl o13 dX11_first_65 kf_X11_55 ?_
          refine s_rvB (fun r16 => ?_)
          refine s_grd (fun o17 => ?_)
          refine s_geti (pc := 68) F_4 7 rfl o17 dX11_first_68 kf_X11_282 ?_
          exact s_iret rfl dX11_first_71
        · dsimp only
          refine s_aload_n (pc := 72) 0 dX11_first_72 rfl rfl ?_
          refine s_geto (pc := 73) F_11 6 rfl o13 dX11_first_73 kf_X11_55 ?_
          refine s_rvB (fun r18 => ?_)
          refine s_grd (fun o19 => ?_)
          refine s_geti (pc := 76) F_4 8 rfl o19 dX11_first_76 kf_X11_285 ?_
          exact s_iret rfl dX11_first_79
        · dsimp only
          refine s_aload_n (pc := 80) 0 dX11_first_80 rfl rfl ?_
          refine s_geto (pc := 81) F_11 6 rfl o13 dX11_first_81 kf_X11_55 ?_
          refine s_rvB (fun r20 => ?_)
          refine s_grd (fun o21 => ?_)
          refine s_geti (pc := 84) F_4 9 rfl o21 dX11_first_84 kf_X11_288 ?_
          refine s_bind (fun q22 hq23 => ?_)
          have hC24 := t_X6_numberOf (l := xl X) (G := xG X) (M := q9) hq23
          refine s_callS (pc := 87) (As := [.int (mI q9 r20 9)]) (st := []) cl_X6_numberOf wt_X6_numberOf km_X11_146 rfl rfl (nle rfl) (nle rfl) (nle rfl) dX11_first_87 hC24 ?_
          show S0 X _ q9 90 [some (.ref (gh (xG X) + a0)), some (.int p1), some (.int p2), some (.int q4)] [.int q22] _
          exact s_iret rfl dX11_first_90
      · refine s_iconst (pc := 91) (-1) dX11_first_91 kc_m1 ?_
        exact s_iret rfl dX11_first_92
    · refine s_iconst (pc := 34) (-1) dX11_first_34 kc_m1 ?_
      exact s_iret rfl dX11_first_35
  · refine s_iconst (pc := 13) (-1) dX11_first_13 kc_m1 ?_
    exact s_iret rfl dX11_first_14
set_option maxRecDepth 100000 in
set_option maxHeartbeats 8000000 in
noncomputable def f_X11_judge (M : Mem) (a0 : Nat) (p1 : Int32) : Option (Mem × Int32) :=
  grd (okO M 11 a0) (Option.bind (mR M a0 0) (fun r2 => grd (okO M 10 r2) (bv ((mI M r2 8) - 1 : Int32) (fun x4 => Option.bind (loopO (σ := Mem × Int32 × Int32 × Int32) (ρ := Mem × Int32 × Int32) (fun s5 => if s5.2.2.2 < 0 then (some (.inr (s5.1, s5.2.1, s5.2.2.1))) else (Option.bind (mR s5.1 a0 0) (fun r14 => grd (okO s5.1 10 r14) (Option.bind (mR s5.1 r14 3) (fun r16 => grd (okO s5.1 14 r16) (grd (vp_in s5.2.2.2 (mL s5.1 r16)) (bv (fun (s20 : Mem × Int32 × Int32) => bv (s5.2.2.2 + (-1) : Int32) (fun x24 => some (.inl (s20.1, s20.2.1, s20.2.2, x24)))) (fun j19 => if (mI s5.1 r16 s5.2.2.2.toNatClampNeg) = (-1) then (j19 (s5.1, s5.2.1, s5.2.2.1)) else (Option.bind (f_X11_keepsCustom s5.1 a0 s5.2.2.2) (fun q25 => if q25.2 = 0 then (bv (s5.2.2.1 + 1 : Int32) (fun x30 => j19 (q25.1, s5.2.2.2, x30))) else (j19 (q25.1, s5.2.1, s5.2.2.1)))))))))))) (M, (-1), 0, x4)) (fun (x12 : Mem × Int32 × Int32) => if p1 = 0 then (some (x12.1, x12.2.1)) else (if p1 = 1 then (some (x12.1, x12.2.2)) else (some (x12.1, (-1)))))))))
abbrev Y_X11_judge : Sta := (RX11, "judge", cX11_judge, 5, (some .int), 8)
set_option maxRecDepth 100000 in
set_option maxHeartbeats 8000000 in
theorem t_X11_judge {l : Launch} {G : Gh} {M : Mem} {a0 : Nat} {p1 : Int32} {q : Mem × Int32} (h : f_X11_judge M a0 p1 = some q) : Ctr l G yX11_judge Y_X11_judge M [.ref (gh G + a0), .int p1] q.1 (some (.int q.2)) := by
  refine Ctr.of (Y := Y_X11_judge) (L := [some (.ref (gh G + a0)), some (.int p1), none, none, none]) (t := Option.bind (f_X11_judge M a0 p1) (fun q => some (q.1, some (.int q.2)))) (by decide) rfl rfl (nle rfl) (Lof_in 3 _ rfl) (fun X hG hl => ?_) (by rw [h]; rfl)
  subst hG
  subst hl
  unfold f_X11_judge
  refine s_iconst (pc := 0) (-1) dX11_judge_0 kc_m1 ?_
  refine s_istore_n (pc := 1) 2 dX11_judge_1 rfl (nlt rfl) rfl (L' := [some (.ref (gh (xG X) + a0)), some (.int p1), some (.int (-1)), none, none]) rfl ?_
  refine s_iconst (pc := 2) 0 dX11_judge_2 kc_0 ?_
  refine s_istore_n (pc := 3) 3 dX11_judge_3 rfl (nlt rfl) rfl (L' := [some (.ref (gh (xG X) + a0)), some (.int p1), some (.int (-1)), some (.int 0), none]) rfl ?_
  refine s_aload_n (pc := 4) 0 dX11_judge_4 rfl rfl ?_
  refine s_grd (fun o1 => ?_)
  refine s_geto (pc := 5) F_11 0 rfl o1 dX11_judge_5 kf_X11_10 ?_
  refine s_rvB (fun r2 => ?_)
  refine s_grd (fun o3 => ?_)
  refine s_getiN (pc := 8) F_10 8 rfl o3 dX11_judge_8 (List.mem_of_getElem? (i := 9) rfl) ?_
  refine s_iconst (pc := 11) 1 dX11_judge_11 kc_1 ?_
  refine s_isub (pc := 12) dX11_judge_12 ?_
  refine s_istore (pc := 13) dX11_judge_13 (nlt rfl) rfl (L' := [some (.ref (gh (xG X) + a0)), some (.int p1), some (.int (-1)), some (.int 0), some (.int ((mI M r2 8) - 1))]) rfl ?_
  refine s_bv (fun x4 : Int32 => [some (.ref (gh (xG X) + a0)), some (.int p1), some (.int (-1)), some (.int 0), some (.int x4)]) (fun x4 => ?_) rfl
  refine s_drop (L' := [some (.ref (gh (xG X) + a0)), some (.int p1), some (.int (-1)), some (.int 0), some (.int x4)]) ?_ (And.intro rfl (And.intro rfl (And.intro rfl (And.intro rfl (And.intro rfl trivial)))))
  refine s_loop1 M (fun s5 : Mem × Int32 × Int32 × Int32 => s5.1) (fun s5 : Mem × Int32 × Int32 × Int32 => [some (.ref (gh (xG X) + a0)), some (.int p1), some (.int s5.2.1), some (.int s5.2.2.1), some (.int s5.2.2.2)]) (fun x12 : Mem × Int32 × Int32 => x12.1) 55 (fun x12 : Mem × Int32 × Int32 => [none, some (.int p1), some (.int x12.2.1), some (.int x12.2.2), none]) (fun x12 hx13 => ?_) (fun T7 R9 hT8 hR10 s5 hs6 => ?_) (M, (-1), 0, x4) Le.rf
  · show S0 X _ x12.1 55 [none, some (.int p1), some (.int x12.2.1), some (.int x12.2.2), none] [] _
    refine s_iload_n (pc := 55) 1 dX11_judge_55 rfl rfl ?_
    refine s_ifne (pc := 56) 61 dX11_judge_56 rfl ?_ ?_
    · refine s_iload_n (pc := 61) 1 dX11_judge_61 rfl rfl ?_
      refine s_iconst (pc := 62) 1 dX11_judge_62 kc_1 ?_
      refine s_icne (pc := 63) 70 dX11_judge_63 rfl ?_ ?_
      · refine s_iconst (pc := 70) (-1) dX11_judge_70 kc_m1 ?_
        exact s_iret rfl dX11_judge_71
      · refine s_iload_n (pc := 66) 3 dX11_judge_66 rfl rfl ?_
        refine s_goto (pc := 67) 71 dX11_judge_67 rfl ?_
        exact s_iret rfl dX11_judge_71
    · refine s_iload_n (pc := 59) 2 dX11_judge_59 rfl rfl ?_
      exact s_iret rfl dX11_judge_60
  · show S0 X _ s5.1 15 [some (.ref (gh (xG X) + a0)), some (.int p1), some (.int s5.2.1), some (.int s5.2.2.1), some (.int s5.2.2.2)] [] _
    have o11 := hs6.ok o1
    refine s_iload (pc := 15) dX11_judge_15 rfl ?_
    refine s_iflt (pc := 17) 55 dX11_judge_17 rfl ?_ ?_
    · exact s_drop (hR10 (s5.1, s5.2.1, s5.2.2.1) hs6) (And.intro rfl (And.intro rfl (And.intro rfl trivial)))
    · refine s_aload_n (pc := 20) 0 dX11_judge_20 rfl rfl ?_
      refine s_geto (pc := 21) F_11 0 rfl o11 dX11_judge_21 kf_X11_10 ?_
      refine s_rvB (fun r14 => ?_)
      refine s_grd (fun o15 => ?_)
      refine s_getoN (pc := 24) F_10 3 rfl o15 dX11_judge_24 (List.mem_of_getElem? (i := 4) rfl) ?_
      refine s_rvB (fun r16 => ?_)
      refine s_iload (pc := 27) dX11_judge_27 rfl ?_
      refine s_grd (fun o17 => ?_)
      refine s_grd (fun i18 => ?_)
      refine s_iald (pc := 29) o17 i18 dX11_judge_29 ?_
      refine s_iconst (pc := 30) (-1) dX11_judge_30 kc_m1 ?_
      refine s_join s5.1 (fun s20 : Mem × Int32 × Int32 => s20.1) 49 (fun s20 : Mem × Int32 × Int32 => [some (.ref (gh (xG X) + a0)), some (.int p1), some (.int s20.2.1), some (.int s20.2.2), some (.int s5.2.2.2)]) (fun s20 : Mem × Int32 × Int32 => []) (fun s20 hs21 => ?_) (fun j19 hj22 => ?_)
      · show S0 X _ s20.1 49 [some (.ref (gh (xG X) + a0)), some (.int p1), some (.int s20.2.1), some (.int s20.2.2), some (.int s5.2.2.2)] [] _
        have o23 := hs21.ok o11
        refine s_iinc (pc := 49) dX11_judge_49 rfl (v := s5.2.2.2 + (-1)) (congrArg (fun z : Int32 => s5.2.2.2 + z) kc_m1) (nlt rfl) rfl (L' := [some (.ref (gh (xG X) + a0)), some (.int p1), some (.int s20.2.1), some (.int s20.2.2), some (.int (s5.2.2.2 + (-1)))]) rfl ?_
        refine s_bv (fun x24 : Int32 => [some (.ref (gh (xG X) + a0)), some (.int p1), some (.int s20.2.1), some (.int s20.2.2), some (.int x24)]) (fun x24 => ?_) rfl
        refine s_goto (pc := 52) 15 dX11_judge_52 rfl ?_
        exact s_drop (hT8 (s20.1, s20.2.1, s20.2.2, x24) (hs6.tr hs21)) (And.intro rfl (And.intro rfl (And.intro rfl (And.intro rfl (And.intro rfl trivial)))))
      · refine s_iceq (pc := 31) 49 dX11_judge_31 rfl ?_ ?_
        · exact s_drop (hj22 (s5.1, s5.2.1, s5.2.2.1) Le.rf) (And.intro rfl (And.intro rfl (And.intro rfl (And.intro rfl (And.intro rfl trivial)))))
        · refine s_aload_n (pc := 34) 0 dX11_judge_34 rfl rfl ?_
          refine s_iload (pc := 35) dX11_judge_35 rfl ?_
          refine s_bind (fun q25 hq26 => ?_)
          have hC27 := t_X11_keepsCustom (l := xl X) (G := xG X) hq26
          refine s_callV (pc := 37) (As := [.int s5.2.2.2]) (st := []) (nlt rfl) (q := (RX11, TX11, 16)) rfl rfl o11 cl_X11_keepsCustom wi_X11_keepsCustom wl_X11_keepsCustom km_X11_266 rfl rfl (nle rfl) (nle rfl) (nle rfl) dX11_judge_37 hC27 ?_
          have h28 := hC27.1 X
          have o29 := h28.ok o11
          show S0 X _ q25.1 40 [some (.ref (gh (xG X) + a0)), some (.int p1), some (.int s5.2.1), some (.int s5.2.2.1), some (.int s5.2.2.2)] [.int q25.2] _
          refine s_ifne (pc := 40) 49 dX11_judge_40 rfl ?_ ?_
          · exact s_drop (hj22 (q25.1, s5.2.1, s5.2.2.1) h28) (And.intro rfl (And.intro rfl (And.intro rfl (And.intro rfl (And.intro rfl trivial)))))
          · refine s_iload (pc := 43) dX11_judge_43 rfl ?_
            refine s_istore_n (pc := 45) 2 dX11_judge_45 rfl (nlt rfl) rfl (L' := [some (.ref (gh (xG X) + a0)), some (.int p1), some (.int s5.2.2.2), some (.int s5.2.2.1), some (.int s5.2.2.2)]) rfl ?_
            refine s_iinc (pc := 46) dX11_judge_46 rfl (v := s5.2.2.1 + 1) (congrArg (fun z : Int32 => s5.2.2.1 + z) kc_1) (nlt rfl) rfl (L' := [some (.ref (gh (xG X) + a0)), some (.int p1), some (.int s5.2.2.2), some (.int (s5.2.2.1 + 1)), some (.int s5.2.2.2)]) rfl ?_
            refine s_bv (fun x30 : Int32 => [some (.ref (gh (xG X) + a0)), some (.int p1), some (.int s5.2.2.2), some (.int x30), some (.int s5.2.2.2)]) (fun x30 => ?_) rfl
            exact s_drop (hj22 (q25.1, s5.2.2.2, x30) h28) (And.intro rfl (And.intro rfl (And.intro rfl (And.intro rfl (And.intro rfl trivial)))))
