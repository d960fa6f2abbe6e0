set_option maxRecDepth 100000 in
set_option maxHeartbeats 8000000 in
noncomputable def f_X11_stood (M : Mem) (a0 : Nat) (p1 : Int32) : Option Int32 :=
  Option.bind (f_X6_rankOf p1) (fun q1 => bv (fun (s5 : Int32) => bv (fun (s9 : Int32) => Option.bind (loopO (σ := Int32 × Int32 × Int32 × Int32) (ρ := Int32 ⊕ Unit) (fun s12 => if 5 ≤ s12.2.2.2 then (some (.inr (.inl s12.2.1))) else (if s12.1 ≤ 0 then (some (.inr (.inl s12.2.1))) else (grd (okO M 11 a0) (Option.bind (mR M a0 0) (fun r25 => grd (okO M 10 r25) (Option.bind (f_X10_gotInstead M r25 ((ir s12.1 10) - 1)) (fun q27 => if q27 = (-1) then (some (.inr (.inr ()))) else (bv (s12.2.1 + ((q27 + 1) * s12.2.2.1) : Int32) (fun x30 => bv (s12.2.2.1 * 10 : Int32) (fun x31 => bv (s12.1 / 10 : Int32) (fun x32 => bv (s12.2.2.2 + 1 : Int32) (fun x33 => some (.inl (x32, x30, x31, x33)))))))))))))) (s5, s9, 1, 0)) (Sum.elim (fun (x20 : Int32) => some x20) (fun (x22 : Unit) => some (-1)))) (fun j8 => if s5 = (-1) then (j8 (-1)) else (j8 0))) (fun j4 => if q1 = (-1) then (j4 (-1)) else (j4 p1)))
abbrev Y_X11_stood : Sta := (RX11, "stood", cX11_stood, 7, (some .int), 3)
set_option maxRecDepth 100000 in
set_option maxHeartbeats 8000000 in
theorem t_X11_stood {l : Launch} {G : Gh} {M : Mem} {a0 : Nat} {p1 : Int32} {q : Int32} (h : f_X11_stood M a0 p1 = some q) : Ctr l G yX11_stood Y_X11_stood M [.ref (gh G + a0), .int p1] M (some (.int q)) := by
  refine Ctr.of (Y := Y_X11_stood) (L := [some (.ref (gh G + a0)), some (.int p1), none, none, none, none, none]) (t := Option.bind (f_X11_stood M a0 p1) (fun q => some (M, some (.int q)))) (by decide) rfl rfl (nle rfl) (Lof_in 5 _ rfl) (fun X hG hl => ?_) (by rw [h]; rfl)
  subst hG
  subst hl
  unfold f_X11_stood
  refine s_iload_n (pc := 0) 1 dX11_stood_0 rfl rfl ?_
  refine s_bind (fun q1 hq2 => ?_)
  have hC3 := t_X6_rankOf (l := xl X) (G := xG X) (M := M) hq2
  refine s_callS (pc := 1) (As := [.int p1]) (st := []) cl_X6_rankOf wt_X6_rankOf km_X11_111 rfl rfl (nle rfl) (nle rfl) (nle rfl) dX11_stood_1 hC3 ?_
  show S0 X _ M 4 [some (.ref (gh (xG X) + a0)), some (.int p1), none, none, none, none, none] [.int q1] _
  refine s_iconst (pc := 4) (-1) dX11_stood_4 kc_m1 ?_
  refine s_join M (fun s5 : Int32 => M) 13 (fun s5 : Int32 => [some (.ref (gh (xG X) + a0)), none, none, none, none, none, none]) (fun s5 : Int32 => [.int s5]) (fun s5 hs6 => ?_) (fun j4 hj7 => ?_)
  · show S0 X _ M 13 [some (.ref (gh (xG X) + a0)), none, none, none, none, none, none] [.int s5] _
    refine s_istore_n (pc := 13) 2 dX11_stood_13 rfl (nlt rfl) rfl (L' := [some (.ref (gh (xG X) + a0)), none, some (.int s5), none, none, none, none]) rfl ?_
    refine s_iload_n (pc := 14) 2 dX11_stood_14 rfl rfl ?_
    refine s_iconst (pc := 15) (-1) dX11_stood_15 kc_m1 ?_
    refine s_join M (fun s9 : Int32 => M) 24 (fun s9 : Int32 => [some (.ref (gh (xG X) + a0)), none, some (.int s5), none, none, none, none]) (fun s9 : Int32 => [.int s9]) (fun s9 hs10 => ?_) (fun j8 hj11 => ?_)
    · show S0 X _ M 24 [some (.ref (gh (xG X) + a0)), none, some (.int s5), none, none, none, none] [.int s9] _
      refine s_istore_n (pc := 24) 3 dX11_stood_24 rfl (nlt rfl) rfl (L' := [some (.ref (gh (xG X) + a0)), none, some (.int s5), some (.int s9), none, none, none]) rfl ?_
      refine s_iconst (pc := 25) 1 dX11_stood_25 kc_1 ?_
      refine s_istore (pc := 26) dX11_stood_26 (nlt rfl) rfl (L' := [some (.ref (gh (xG X) + a0)), none, some (.int s5), some (.int s9), some (.int 1), none, none]) rfl ?_
      refine s_iconst (pc := 28) 0 dX11_stood_28 kc_0 ?_
      refine s_istore (pc := 29) dX11_stood_29 (nlt rfl) rfl (L' := [some (.ref (gh (xG X) + a0)), none, some (.int s5), some (.int s9), some (.int 1), some (.int 0), none]) rfl ?_
      refine s_drop (L' := [some (.ref (gh (xG X) + a0)), none, some (.int s5), some (.int s9), some (.int 1), some (.int 0), none]) ?_ (And.intro rfl (And.intro rfl (And.intro rfl (And.intro rfl (And.intro rfl trivial)))))
      refine s_loop2 M (fun s12 : Int32 × Int32 × Int32 × Int32 => M) (fun s12 : Int32 × Int32 × Int32 × Int32 => [some (.ref (gh (xG X) + a0)), none, some (.int s12.1), some (.int s12.2.1), some (.int s12.2.2.1), some (.int s12.2.2.2), none]) (fun x20 : Int32 => M) 92 (fun x20 : Int32 => [none, none, none, some (.int x20), none, none, none]) (fun x22 : Unit => M) 62 (fun x22 : Unit => [none, none, none, none, none, none, none]) (fun x20 hx21 => ?_) (fun x22 hx23 => ?_) (fun T14 R16 R18 hT15 hR17 hR19 s12 hs13 => ?_) (s5, s9, 1, 0) Le.rf
      · show S0 X _ M 92 [none, none, none, some (.int x20), none, none, none] [] _
        refine s_iload_n (pc := 92) 3 dX11_stood_92 rfl rfl ?_
        exact s_iret rfl dX11_stood_93
      · show S0 X _ M 62 [none, none, none, none, none, none, none] [] _
        refine s_iconst (pc := 62) (-1) dX11_stood_62 kc_m1 ?_
        exact s_iret rfl dX11_stood_63
      · show S0 X _ M 31 [some (.ref (gh (xG X) + a0)), none, some (.int s12.1), some (.int s12.2.1), some (.int s12.2.2.1), some (.int s12.2.2.2), none] [] _
        refine s_iload (pc := 31) dX11_stood_31 rfl ?_
        refine s_iconst (pc := 33) 5 dX11_stood_33 kc_5 ?_
        refine s_icge (pc := 34) 92 dX11_stood_34 rfl ?_ ?_
        · exact s_drop (hR17 s12.2.1 Le.rf) (And.intro rfl trivial)
        · refine s_iload_n (pc := 37) 2 dX11_stood_37 rfl rfl ?_
          refine s_ifle (pc := 38) 92 dX11_stood_38 rfl ?_ ?_
          · exact s_drop (hR17 s12.2.1 Le.rf) (And.intro rfl trivial)
          · refine s_aload_n (pc := 41) 0 dX11_stood_41 rfl rfl ?_
            refine s_grd (fun o24 => ?_)
            refine s_geto (pc := 42) F_11 0 rfl o24 dX11_stood_42 kf_X11_10 ?_
            refine s_rvB (fun r25 => ?_)
            refine s_iload_n (pc := 45) 2 dX11_stood_45 rfl rfl ?_
            refine s_bipush (pc := 46) 10 dX11_stood_46 kb_10 ?_
            refine s_irem (pc := 48) dX11_stood_48 (by decide) ?_
            refine s_iconst (pc := 49) 1 dX11_stood_49 kc_1 ?_
            refine s_isub (pc := 50) dX11_stood_50 ?_
            refine s_grd (fun o26 => ?_)
            refine s_bind (fun q27 hq28 => ?_)
            have hC29 := t_X10_gotInstead (l := xl X) (G := xG X) hq28
            refine s_callV (pc := 51) (As := [.int ((ir s12.1 10) - 1)]) (st := []) (nlt rfl) (q := (RX10, TX10, 15)) rfl rfl o26 cl_X10_gotInstead wi_X10_gotInstead wl_X10_gotInstead km_X11_343 rfl rfl (nle rfl) (nle rfl) (nle rfl) dX11_stood_51 hC29 ?_
            show S0 X _ M 54 [some (.ref (gh (xG X) + a0)), none, some (.int s12.1), some (.int s12.2.1), some (.int s12.2.2.1), some (.int s12.2.2.2), none] [.int q27] _
            refine s_istore (pc := 54) dX11_stood_54 (nlt rfl) rfl (L' := [some (.ref (gh (xG X) + a0)), none, some (.int s12.1), some (.int s12.2.1), some (.int s12.2.2.1), some (.int s12.2.2.2), some (.int q27)]) rfl ?_
            refine s_iload (pc := 56) dX11_stood_56 rfl ?_
            refine s_iconst (pc := 58) (-1) dX11_stood_58 kc_m1 ?_
            refine s_icne (pc := 59) 64 dX11_stood_59 rfl ?_ ?_
            · refine s_iload_n (pc := 64) 3 dX11_stood_64 rfl rfl ?_
              refine s_iload (pc := 65) dX11_stood_65 rfl ?_
              refine s_iconst (pc := 67) 1 dX11_stood_67 kc_1 ?_
              refine s_iadd (pc := 68) dX11_stood_68 ?_
              refine s_iload (pc := 69) dX11_stood_69 rfl ?_
              refine s_imul (pc := 71) dX11_stood_71 ?_
              refine s_iadd (pc := 72) dX11_stood_72 ?_
              refine s_istore_n (pc := 73) 3 dX11_stood_73 rfl (nlt rfl) rfl (L' := [some (.ref (gh (xG X) + a0)), none, some (.int s12.1), some (.int (s12.2.1 + ((q27 + 1) * s12.2.2.1))), some (.int s12.2.2.1), some (.int s12.2.2.2), some (.int q27)]) rfl ?_
              refine s_bv (fun x30 : Int32 => [some (.ref (gh (xG X) + a0)), none, some (.int s12.1), some (.int x30), some (.int s12.2.2.1), some (.int s12.2.2.2), some (.int q27)]) (fun x30 => ?_) rfl
              refine s_iload (pc := 74) dX11_stood_74 rfl ?_
              refine s_bipush (pc := 76) 10 dX11_stood_76 kb_10 ?_
              refine s_imul (pc := 78) dX11_stood_78 ?_
              refine s_istore (pc := 79) dX11_stood_79 (nlt rfl) rfl (L' := [some (.ref (gh (xG X) + a0)), none, some (.int s12.1), some (.int x30), some (.int (s12.2.2.1 * 10)), some (.int s12.2.2.2), some (.int q27)]) rfl ?_
              refine s_bv (fun x31 : Int32 => [some (.ref (gh (xG X) + a0)), none, some (.int s12.1), some (.int x30), some (.int x31), some (.int s12.2.2.2), some (.int q27)]) (fun x31 => ?_) rfl
              refine s_iload_n (pc := 81) 2 dX11_stood_81 rfl rfl ?_
              refine s_bipush (pc := 82) 10 dX11_stood_82 kb_10 ?_
              refine s_idiv (pc := 84) dX11_stood_84 (by decide) ?_
              refine s_istore_n (pc := 85) 2 dX11_stood_85 rfl (nlt rfl) rfl (L' := [some (.ref (gh (xG X) + a0)), none, some (.int (s12.1 / 10)), some (.int x30), some (.int x31), some (.int s12.2.2.2), some (.int q27)]) rfl ?_
              refine s_bv (fun x32 : Int32 => [some (.ref (gh (xG X) + a0)), none, some (.int x32), some (.int x30), some (.int x31), some (.int s12.2.2.2), some (.int q27)]) (fun x32 => ?_) rfl
              refine s_iinc (pc := 86) dX11_stood_86 rfl (v := s12.2.2.2 + 1) (congrArg (fun z : Int32 => s12.2.2.2 + z) kc_1) (nlt rfl) rfl (L' := [some (.ref (gh (xG X) + a0)), none, some (.int x32), some (.int x30), some (.int x31), some (.int (s12.2.2.2 + 1)), some (.int q27)]) rfl ?_
              refine s_bv (fun x33 : Int32 => [some (.ref (gh (xG X) + a0)), none, some (.int x32), some (.int x30), some (.int x31), some (.int x33), some (.int q27)]) (fun x33 => ?_) rfl
              refine s_goto (pc := 89) 31 dX11_stood_89 rfl ?_
              exact s_drop (hT15 (x32, x30, x31, x33) Le.rf) (And.intro rfl (And.intro rfl (And.intro rfl (And.intro rfl (And.intro rfl trivial)))))
            · exact s_drop (hR19 () Le.rf) trivial
    · refine s_icne (pc := 16) 23 dX11_stood_16 rfl ?_ ?_
      · refine s_iconst (pc := 23) 0 dX11_stood_23 kc_0 ?_
        exact s_drop (hj11 0 Le.rf) (And.intro rfl (And.intro rfl trivial))
      · refine s_iconst (pc := 19) (-1) dX11_stood_19 kc_m1 ?_
        refine s_goto (pc := 20) 24 dX11_stood_20 rfl ?_
        exact s_drop (hj11 (-1) Le.rf) (And.intro rfl (And.intro rfl trivial))
  · refine s_icne (pc := 5) 12 dX11_stood_5 rfl ?_ ?_
    · refine s_iload_n (pc := 12) 1 dX11_stood_12 rfl rfl ?_
      exact s_drop (hj7 p1 Le.rf) (And.intro rfl trivial)
    · refine s_iconst (pc := 8) (-1) dX11_stood_8 kc_m1 ?_
      refine s_goto (pc := 9) 13 dX11_stood_9 rfl ?_
      exact s_drop (hj7 (-1) Le.rf) (And.intro rfl trivial)
set_option maxRecDepth 100000 in
set_option maxHeartbeats 8000000 in
noncomputable def f_X11_tastings (M : Mem) (a0 : Nat) (p1 : Int32) (p2 : Int32) : Option Int32 :=
  grd (okO M 11 a0) (Option.bind (mR M a0 0) (fun r2 => grd (okO M 10 r2) (Option.bind (f_X10_toldOf M r2 p1) (fun q4 => if q4 = 0 then (some (-1)) else (if p2 < 0 then (some (-1)) else (if p2 ≤ 3 then (Option.bind (mR M a0 0) (fun r7 => grd (okO M 10 r7) (Option.bind (f_X10_groupsBy M r7 q4 63) (fun q9 => Option.bind (loopO (σ := Int32 × Int32 × Int32 × Int32) (ρ := Int32 × Int32 × Int32) (fun s12 => if 64 ≤ s12.2.2.2 then (some (.inr (s12.1, s12.2.1, s12.2.2.1))) else (Option.bind (f_J6_bitCount_0f7a4 s12.2.2.2) (fun q20 => bv (fun (s24 : Int32 × Int32 × Int32) => bv (s12.2.2.2 + 1 : Int32) (fun x27 => some (.inl (s24.1, s24.2.1, s24.2.2, x27)))) (fun j23 => if s12.1 < q20 then (j23 (s12.1, s12.2.1, s12.2.2.1)) else (Option.bind (mR M a0 0) (fun r28 => grd (okO M 10 r28) (Option.bind (f_X10_groupsBy M r28 q4 s12.2.2.2) (fun q30 => if q30 = q9 then (bv (fun (s34 : Int32) => bv (fun (s38 : Int32) => j23 (q20, s34, s38)) (fun j37 => if s12.1 ≤ q20 then (j37 (s12.2.2.1 + 1)) else (j37 1))) (fun j33 => if s12.1 ≤ q20 then (j33 s12.2.1) else (j33 s12.2.2.2))) else (j23 (s12.1, s12.2.1, s12.2.2.1)))))))))) (7, 0, 0, 0)) (fun (x18 : Int32 × Int32 × Int32) => swO p2 (swC 0 [(160, some x18.1), (163, some x18.2.1), (166, some x18.2.2)]) (some q9)))))) else (some (-1))))))))
abbrev Y_X11_tastings : Sta := (RX11, "tastings", cX11_tastings, 10, (some .int), 3)
set_option maxRecDepth 100000 in
set_option maxHeartbeats 8000000 in
theorem t_X11_tastings {l : Launch} {G : Gh} {M : Mem} {a0 : Nat} {p1 : Int32} {p2 : Int32} {q : Int32} (h : f_X11_tastings M a0 p1 p2 = some q) : Ctr l G yX11_tastings Y_X11_tastings M [.ref (gh G + a0), .int p1, .int p2] M (some (.int q)) := by
  refine Ctr.of (Y := Y_X11_tastings) (L := [some (.ref (gh G + a0)), some (.int p1), some (.int p2), none, none, none, none, none, none, none]) (t := Option.bind (f_X11_tastings M a0 p1 p2) (fun q => some (M, some (.int q)))) (by decide) rfl rfl (nle rfl) (Lof_in 7 _ rfl) (fun X hG hl => ?_) (by rw [h]; rfl)
  subst hG
  subst hl
  unfold f_X11_tastings
  refine s_aload_n (pc := 0) 0 dX11_tastings_0 rfl rfl ?_
  refine s_grd (fun o1 => ?_)
  refine s_geto (pc := 1) F_11 0 rfl o1 dX11_tastings_1 kf_X11_10 ?_
  refine s_rvB (fun r2 => ?_)
  refine s_iload_n (pc := 4) 1 dX11_tastings_4 rfl rfl ?_
  refine s_grd (fun o3 => ?_)
  refine s_bind (fun q4 hq5 => ?_)
  have hC6 := t_X10_toldOf (l := xl X) (G := xG X) hq5
  refine s_callV (pc := 5) (As := [.int p1]) (st := []) (nlt rfl) (q := (RX10, TX10, 15)) rfl rfl o3 cl_X10_toldOf wi_X10_toldOf wl_X10_toldOf km_X11_276 rfl rfl (nle rfl) (nle rfl) (nle rfl) dX11_tastings_5 hC6 ?_
  show S0 X _ M 8 [some (.ref (gh (xG X) + a0)), some (.int p1), some (.int p2), none, none, none, none, none, none, none] [.int q4] _
  refine s_istore_n (pc := 8) 3 dX11_tastings_8 rfl (nlt rfl) rfl (L' := [some (.ref (gh (xG X) + a0)), some (.int p1), some (.int p2), some (.int q4), none, none, none, none, none, none]) rfl ?_
  refine s_iload_n (pc := 9) 3 dX11_tastings_9 rfl rfl ?_
  refine s_ifeq (pc := 10) 22 dX11_tastings_10 rfl ?_ ?_
  · refine s_iconst (pc := 22) (-1) dX11_tastings_22 kc_m1 ?_
    exact s_iret rfl dX11_tastings_23
  · refine s_iload_n (pc := 13) 2 dX11_tastings_13 rfl rfl ?_
    refine s_iflt (pc := 14) 22 dX11_tastings_14 rfl ?_ ?_
    · refine s_iconst (pc := 22) (-1) dX11_tastings_22 kc_m1 ?_
      exact s_iret rfl dX11_tastings_23
    · refine s_iload_n (pc := 17) 2 dX11_tastings_17 rfl rfl ?_
      refine s_iconst (pc := 18) 3 dX11_tastings_18 kc_3 ?_
      refine s_icle (pc := 19) 24 dX11_tastings_19 rfl ?_ ?_
      · refine s_aload_n (pc := 24) 0 dX11_tastings_24 rfl rfl ?_
        refine s_geto (pc := 25) F_11 0 rfl o1 dX11_tastings_25 kf_X11_10 ?_
        refine s_rvB (fun r7 => ?_)
        refine s_iload_n (pc := 28) 3 dX11_tastings_28 rfl rfl ?_
        refine s_bipush (pc := 29) 63 dX11_tastings_29 kb_63 ?_
        refine s_grd (fun o8 => ?_)
        refine s_bind (fun q9 hq10 => ?_)
        have hC11 := t_X10_groupsBy (l := xl X) (G := xG X) hq10
        refine s_callV (pc := 31) (As := [.int q4, .int 63]) (st := []) (nlt rfl) (q := (RX10, TX10, 15)) rfl rfl o8 cl_X10_groupsBy wi_X10_groupsBy wl_X10_groupsBy km_X11_334 rfl rfl (nle rfl) (nle rfl) (nle rfl) dX11_tastings_31 hC11 ?_
        show S0 X _ M 34 [some (.ref (gh (xG X) + a0)), some (.int p1), some (.int p2), some (.int q4), none, none, none, none, none, none] [.int q9] _
        refine s_istore (pc := 34) dX11_tastings_34 (nlt rfl) rfl (L' := [some (.ref (gh (xG X) + a0)), some (.int p1), some (.int p2), some (.int q4), some (.int q9), none, none, none, none, none]) rfl ?_
        refine s_bipush (pc := 36) 7 dX11_tastings_36 kb_7 ?_
        refine s_istore (pc := 38) dX11_tastings_38 (nlt rfl) rfl (L' := [some (.ref (gh (xG X) + a0)), some (.int p1), some (.int p2), some (.int q4), some (.int q9), some (.int 7), none, none, none, none]) rfl ?_
        refine s_iconst (pc := 40) 0 dX11_tastings_40 kc_0 ?_
        refine s_istore (pc := 41) dX11_tastings_41 (nlt rfl) rfl (L' := [some (.ref (gh (xG X) + a0)), some (.int p1), some (.int p2), some (.int q4), some (.int q9), some (.int 7), some (.int 0), none, none, none]) rfl ?_
        refine s_iconst (pc := 43) 0 dX11_tastings_43 kc_0 ?_
        refine s_istore (pc := 44) dX11_tastings_44 (nlt rfl) rfl (L' := [some (.ref (gh (xG X) + a0)), some (.int p1), some (.int p2), some (.int q4), some (.int q9), some (.int 7), some (.int 0), some (.int 0), none, none]) rfl ?_
        refine s_iconst (pc := 46) 0 dX11_tastings_46 kc_0 ?_
        refine s_istore (pc := 47) dX11_tastings_47 (nlt rfl) rfl (L' := [some (.ref (gh (xG X) + a0)), some (.int p1), some (.int p2), some (.int q4), some (.int q9), some (.int 7), some (.int 0), some (.int 0), some (.int 0), none]) rfl ?_
        refine s_drop (L' := [some (.ref (gh (xG X) + a0)), none, some (.int p2), some (.int q4), some (.int q9), some (.int 7), some (.int 0), some (.int 0), some (.int 0), none]) ?_ (And.intro rfl (And.intro rfl (And.intro rfl (And.intro rfl (And.intro rfl (And.intro rfl (And.intro rfl (And.intro rfl trivial))))))))
        refine s_loop1 M (fun s12 : Int32 × Int32 × Int32 × Int32 => M) (fun s12 : Int32 × Int32 × Int32 × Int32 => [some (.ref (gh (xG X) + a0)), none, some (.int p2), some (.int q4), some (.int q9), some (.int s12.1), some (.int s12.2.1), some (.int s12.2.2.1), some (.int s12.2.2.2), none]) (fun x18 : Int32 × Int32 × Int32 => M) 131 (fun x18 : Int32 × Int32 × Int32 => [none, none, some (.int p2), none, some (.int q9), some (.int x18.1), some (.int x18.2.1), some (.int x18.2.2), none, none]) (fun x18 hx19 => ?_) (fun T14 R16 hT15 hR17 s12 hs13 => ?_) (7, 0, 0, 0) Le.rf
        · show S0 X _ M 131 [none, none, some (.int p2), none, some (.int q9), some (.int x18.1), some (.int x18.2.1), some (.int x18.2.2), none, none] [] _
          refine s_iload_n (pc := 131) 2 dX11_tastings_131 rfl rfl ?_
          refine s_tsw (pc := 132) _ 169 dX11_tastings_132 rfl rfl (And.intro (by decide) (And.intro (by simp only [List.length_cons, List.length_nil]; decide) rfl)) ?_ ?_
          · refine (And.intro ?_ (And.intro ?_ (And.intro ?_ trivial)))
            · dsimp only
              refine s_iload (pc := 160) dX11_tastings_160 rfl ?_
              exact s_iret rfl dX11_tastings_162
            · dsimp only
              refine s_iload (pc := 163) dX11_tastings_163 rfl ?_
              exact s_iret rfl dX11_tastings_165
            · dsimp only
              refine s_iload (pc := 166) dX11_tastings_166 rfl ?_
              exact s_iret rfl dX11_tastings_168
          · refine s_iload (pc := 169) dX11_tastings_169 rfl ?_
            exact s_iret rfl dX11_tastings_171
        · show S0 X _ M 49 [some (.ref (gh (xG X) + a0)), none, some (.int p2), some (.int q4), some (.int q9), some (.int s12.1), some (.int s12.2.1), some (.int s12.2.2.1), some (.int s12.2.2.2), none] [] _
          refine s_iload (pc := 49) dX11_tastings_49 rfl ?_
          refine s_bipush (pc := 51) 64 dX11_tastings_51 kb_64 ?_
          refine s_icge (pc := 53) 131 dX11_tastings_53 rfl ?_ ?_
          · exact s_drop (hR17 (s12.1, s12.2.1, s12.2.2.1) Le.rf) (And.intro rfl (And.intro rfl (And.intro rfl (And.intro rfl (And.intro rfl trivial)))))
          · refine s_iload (pc := 56) dX11_tastings_56 rfl ?_
            refine s_bind (fun q20 hq21 => ?_)
            have hC22 := t_J6_bitCount_0f7a4 (l := xl X) (G := xG X) (M := M) hq21
            refine s_callS (pc := 58) (As := [.int s12.2.2.2]) (st := []) cl_J6_bitCount_0f7a4 wt_J6_bitCount_0f7a4 km_X11_291 rfl rfl (nle rfl) (nle rfl) (nle rfl) dX11_tastings_58 hC22 ?_
            show S0 X _ M 61 [some (.ref (gh (xG X) + a0)), none, some (.int p2), some (.int q4), some (.int q9), some (.int s12.1), some (.int s12.2.1), some (.int s12.2.2.1), some (.int s12.2.2.2), none] [.int q20] _
            refine s_istore (pc := 61) dX11_tastings_61 (nlt rfl) rfl (L' := [some (.ref (gh (xG X) + a0)), none, some (.int p2), some (.int q4), some (.int q9), some (.int s12.1), some (.int s12.2.1), some (.int s12.2.2.1), some (.int s12.2.2.2), some (.int q20)]) rfl ?_
            refine s_iload (pc := 63) dX11_tastings_63 rfl ?_
            refine s_iload (pc := 65) dX11_tastings_65 rfl ?_
            refine s_join M (fun s24 : Int32 × Int32 × Int32 => M) 125 (fun s24 : Int32 × Int32 × Int32 => [some (.ref (gh (xG X) + a0)), none, some (.int p2), some (.int q4), some (.int q9), some (.int s24.1), some (.int s24.2.1), some (.int s24.2.2), some (.int s12.2.2.2), none]) (fun s24 : Int32 × Int32 × Int32 => []) (fun s24 hs25 => ?_) (fun j23 hj26 => ?_)
            · show S0 X _ M 125 [some (.ref (gh (xG X) + a0)), none, some (.int p2), some (.int q4), some (.int q9), some (.int s24.1), some (.int s24.2.1), some (.int s24.2.2), some (.int s12.2.2.2), none] [] _
              refine s_iinc (pc := 125) dX11_tastings_125 rfl (v := s12.2.2.2 + 1) (congrArg (fun z : Int32 => s12.2.2.2 + z) kc_1) (nlt rfl) rfl (L' := [some (.ref (gh (xG X) + a0)), none, some (.int p2), some (.int q4), some (.int q9), some (.int s24.1), some (.int s24.2.1), some (.int s24.2.2), some (.int (s12.2.2.2 + 1)), none]) rfl ?_
              refine s_bv (fun x27 : Int32 => [some (.ref (gh (xG X) + a0)), none, some (.int p2), some (.int q4), some (.int q9), some (.int s24.1), some (.int s24.2.1), some (.int s24.2.2), some (.int x27), none]) (fun x27 => ?_) rfl
              refine s_goto (pc := 128) 49 dX11_tastings_128 rfl ?_
              exact s_drop (hT15 (s24.1, s24.2.1, s24.2.2, x27) Le.rf) (And.intro rfl (And.intro rfl (And.intro rfl (And.intro rfl (And.intro rfl (And.intro rfl (And.intro rfl (And.intro rfl trivial))))))))
            · refine s_icgt (pc := 67) 125 dX11_tastings_67 rfl ?_ ?_
              · exact s_drop (hj26 (s12.1, s12.2.1, s12.2.2.1) Le.rf) (And.intro rfl (And.intro rfl (And.intro rfl (And.intro rfl (And.intro rfl (And.intro rfl (And.intro rfl (And.intro rfl trivial))))))))
              · refine s_aload_n (pc := 70) 0 dX11_tastings_70 rfl rfl ?_
                refine s_geto (pc := 71) F_11 0 rfl o1 dX11_tastings_71 kf_X11_10 ?_
                refine s_rvB (fun r28 => ?_)
                refine s_iload_n (pc := 74) 3 dX11_tastings_74 rfl rfl ?_
                refine s_iload (pc := 75) dX11_tastings_75 rfl ?_
                refine s_grd (fun o29 => ?_)
                refine s_bind (fun q30 hq31 => ?_)
                have hC32 := t_X10_groupsBy (l := xl X) (G := xG X) hq31
                refine s_callV (pc := 77) (As := [.int q4, .int s12.2.2.2]) (st := []) (nlt rfl) (q := (RX10, TX10, 15)) rfl rfl o29 cl_X10_groupsBy wi_X10_groupsBy wl_X10_groupsBy km_X11_334 rfl rfl (nle rfl) (nle rfl) (nle rfl) dX11_tastings_77 hC32 ?_
                show S0 X _ M 80 [some (.ref (gh (xG X) + a0)), none, some (.int p2), some (.int q4), some (.int q9), some (.int s12.1), some (.int s12.2.1), some (.int s12.2.2.1), some (.int s12.2.2.2), some (.int q20)] [.int q30] _
                refine s_iload (pc := 80) dX11_tastings_80 rfl ?_
                refine s_iceq (pc := 82) 88 dX11_tastings_82 rfl ?_ ?_
                · refine s_iload (pc := 88) dX11_tastings_88 rfl ?_
                  refine s_iload (pc := 90) dX11_tastings_90 rfl ?_
                  refine s_join M (fun s34 : Int32 => M) 102 (fun s34 : Int32 => [some (.ref (gh (xG X) + a0)), none, some (.int p2), some (.int q4), some (.int q9), some (.int s12.1), none, some (.int s12.2.2.1), some (.int s12.2.2.2), some (.int q20)]) (fun s34 : Int32 => [.int s34]) (fun s34 hs35 => ?_) (fun j33 hj36 => ?_)
                  · show S0 X _ M 102 [some (.ref (gh (xG X) + a0)), none, some (.int p2), some (.int q4), some (.int q9), some (.int s12.1), none, some (.int s12.2.2.1), some (.int s12.2.2.2), some (.int q20)] [.int s34] _
                    refine s_istore (pc := 102) dX11_tastings_102 (nlt rfl) rfl (L' := [some (.ref (gh (xG X) + a0)), none, some (.int p2), some (.int q4), some (.int q9), some (.int s12.1), some (.int s34), some (.int s12.2.2.1), some (.int s12.2.2.2), some (.int q20)]) rfl ?_
                    refine s_iload (pc := 104) dX11_tastings_104 rfl ?_
                    refine s_iload (pc := 106) dX11_tastings_106 rfl ?_
                    refine s_join M (fun s38 : Int32 => M) 119 (fun s38 : Int32 => [some (.ref (gh (xG X) + a0)), none, some (.int p2), some (.int q4), some (.int q9), none, some (.int s34), none, some (.int s12.2.2.2), some (.int q20)]) (fun s38 : Int32 => [.int s38]) (fun s38 hs39 => ?_) (fun j37 hj40 => ?_)
                    · show S0 X _ M 119 [some (.ref (gh (xG X) + a0)), none, some (.int p2), some (.int q4), some (.int q9), none, some (.int s34), none, some (.int s12.2.2.2), some (.int q20)] [.int s38] _
                      refine s_istore (pc := 119) dX11_tastings_119 (nlt rfl) rfl (L' := [some (.ref (gh (xG X) + a0)), none, some (.int p2), some (.int q4), some (.int q9), none, some (.int s34), some (.int s38), some (.int s12.2.2.2), some (.int q20)]) rfl ?_
                      refine s_iload (pc := 121) dX11_tastings_121 rfl ?_
                      refine s_istore (pc := 123) dX11_tastings_123 (nlt rfl) rfl (L' := [some (.ref (gh (xG X) + a0)), none, some (.int p2), some (.int q4), some (.int q9), some (.int q20), some (.int s34), some (.int s38), some (.int s12.2.2.2), some (.int q20)]) rfl ?_
                      exact s_drop (hj26 (q20, s34, s38) Le.rf) (And.intro rfl (And.intro rfl (And.intro rfl (And.intro rfl (And.intro rfl (And.intro rfl (And.intro rfl (And.intro rfl trivial))))))))
                    · refine s_icge (pc := 108) 115 dX11_tastings_108 rfl ?_ ?_
                      · refine s_iload (pc := 115) dX11_tastings_115 rfl ?_
                        refine s_iconst (pc := 117) 1 dX11_tastings_117 kc_1 ?_
                        refine s_iadd (pc := 118) dX11_tastings_118 ?_
                        exact s_drop (hj40 (s12.2.2.1 + 1) Le.rf) (And.intro rfl (And.intro rfl (And.intro rfl (And.intro rfl (And.intro rfl (And.intro rfl (And.intro rfl trivial)))))))
                      · refine s_iconst (pc := 111) 1 dX11_tastings_111 kc_1 ?_
                        refine s_goto (pc := 112) 119 dX11_tastings_112 rfl ?_
                        exact s_drop (hj40 1 Le.rf) (And.intro rfl (And.intro rfl (And.intro rfl (And.intro rfl (And.intro rfl (And.intro rfl (And.intro rfl trivial)))))))
                  · refine s_icge (pc := 92) 100 dX11_tastings_92 rfl ?_ ?_
                    · refine s_iload (pc := 100) dX11_tastings_100 rfl ?_
                      exact s_drop (hj36 s12.2.1 Le.rf) (And.intro rfl (And.intro rfl (And.intro rfl (And.intro rfl (And.intro rfl (And.intro rfl (And.intro rfl (And.intro rfl trivial))))))))
                    · refine s_iload (pc := 95) dX11_tastings_95 rfl ?_
                      refine s_goto (pc := 97) 102 dX11_tastings_97 rfl ?_
                      exact s_drop (hj36 s12.2.2.2 Le.rf) (And.intro rfl (And.intro rfl (And.intro rfl (And.intro rfl (And.intro rfl (And.intro rfl (And.intro rfl (And.intro rfl trivial))))))))
                · refine s_goto (pc := 85) 125 dX11_tastings_85 rfl ?_
                  exact s_drop (hj26 (s12.1, s12.2.1, s12.2.2.1) Le.rf) (And.intro rfl (And.intro rfl (And.intro rfl (And.intro rfl (And.intro rfl (And.intro rfl (And.intro rfl (And.intro rfl trivial))))))))
      · refine s_iconst (pc := 22) (-1) dX11_tastings_22 kc_m1 ?_
        exact s_iret rfl dX11_tastings_23
set_option maxRecDepth 100000 in
set_option maxHeartbeats 8000000 in
noncomputable def f_X11_tellSteward (M : Mem) (a0 : Nat) : Option Mem :=
  grd (okO M 11 a0) (Option.bind (mR M a0 3) (fun r2 => grd (okO M 3 r2) (Option.bind (mR M r2 0) (fun r4 => Option.bind (f_J7_fill_53178 M r4 (-1)) (fun q5 => grd (okO q5 14 r4) (grd (vp_in 2 (mL q5 r4)) (bv (wI q5 r4 (2 : Int32).toNatClampNeg 0) (fun M12 => Option.bind (loopO (σ := Mem × Int32) (ρ := Mem) (fun s17 => Option.bind (mR s17.1 a0 0) (fun r26 => grd (okO s17.1 10 r26) (if (mI s17.1 r26 8) ≤ s17.2 then (some (.inr s17.1)) else (Option.bind (f_X11_tellHouse s17.1 a0 s17.2) (fun q28 => bv (s17.2 + 1 : Int32) (fun x33 => some (.inl (q28, x33)))))))) (M12, 0)) (fun (x24 : Mem) => some x24)))))))))
abbrev Y_X11_tellSteward : Sta := (RX11, "tellSteward", cX11_tellSteward, 3, none, 3)
set_option maxRecDepth 100000 in
set_option maxHeartbeats 8000000 in
theorem t_X11_tellSteward {l : Launch} {G : Gh} {M : Mem} {a0 : Nat} {q : Mem} (h : f_X11_tellSteward M a0 = some q) : Ctr l G yX11_tellSteward Y_X11_tellSteward M [.ref (gh G + a0)] q (none) := by
  refine Ctr.of (Y := Y_X11_tellSteward) (L := [some (.ref (gh G + a0)), none, none]) (t := Option.bind (f_X11_tellSteward M a0) (fun q => some (q, (none : Option Value)))) (by decide) rfl rfl (nle rfl) (Lof_in 2 _ rfl) (fun X hG hl => ?_) (by rw [h]; rfl)
  subst hG
  subst hl
  unfold f_X11_tellSteward
  refine s_aload_n (pc := 0) 0 dX11_tellSteward_0 rfl rfl ?_
  refine s_grd (fun o1 => ?_)
  refine s_geto (pc := 1) F_11 3 rfl o1 dX11_tellSteward_1 kf_X11_30 ?_
  refine s_rvB (fun r2 => ?_)
  refine s_grd (fun o3 => ?_)
  refine s_geto (pc := 4) F_3 0 rfl o3 dX11_tellSteward_4 kf_X11_224 ?_
  refine s_rvB (fun r4 => ?_)
  refine s_astore_n (pc := 7) 1 dX11_tellSteward_7 rfl (nlt rfl) rfl (L' := [some (.ref (gh (xG X) + a0)), some (.ref (gh (xG X) + r4)), none]) rfl ?_
  refine s_aload_n (pc := 8) 1 dX11_tellSteward_8 rfl rfl ?_
  refine s_iconst (pc := 9) (-1) dX11_tellSteward_9 kc_m1 ?_
  refine s_bind (fun q5 hq6 => ?_)
  have hC7 := t_J7_fill_53178 (l := xl X) (G := xG X) hq6
  refine s_callS (pc := 10) (As := [.ref (gh (xG X) + r4), .int (-1)]) (st := []) cl_J7_fill_53178 wt_J7_fill_53178 km_X11_371 rfl rfl (nle rfl) (nle rfl) (nle rfl) dX11_tellSteward_10 hC7 ?_
  have h8 := hC7.1 X
  have o9 := h8.ok o1
  show S0 X _ q5 13 [some (.ref (gh (xG X) + a0)), some (.ref (gh (xG X) + r4)), none] [] _
  refine s_aload_n (pc := 13) 1 dX11_tellSteward_13 rfl rfl ?_
  refine s_iconst (pc := 14) 2 dX11_tellSteward_14 kc_2 ?_
  refine s_iconst (pc := 15) 0 dX11_tellSteward_15 kc_0 ?_
  refine s_grd (fun o10 => ?_)
  refine s_grd (fun i11 => ?_)
  refine s_iast (pc := 16) o10 i11 dX11_tellSteward_16 (fun M12 hM13 => ?_)
  have h14 := le_wI hM13
  have o15 := h14.ok o9
  have o16 := h14.ok o10
  refine s_iconst (pc := 17) 0 dX11_tellSteward_17 kc_0 ?_
  refine s_istore_n (pc := 18) 2 dX11_tellSteward_18 rfl (nlt rfl) rfl (L' := [some (.ref (gh (xG X) + a0)), some (.ref (gh (xG X) + r4)), some (.int 0)]) rfl ?_
  refine s_drop (L' := [some (.ref (gh (xG X) + a0)), none, some (.int 0)]) ?_ (And.intro rfl (And.intro rfl trivial))
  refine s_loop1 M12 (fun s17 : Mem × Int32 => s17.1) (fun s17 : Mem × Int32 => [some (.ref (gh (xG X) + a0)), none, some (.int s17.2)]) (fun x24 : Mem => x24) 41 (fun x24 : Mem => [none, none, none]) (fun x24 hx25 => ?_) (fun T19 R21 hT20 hR22 s17 hs18 => ?_) (M12, 0) Le.rf
  · show S0 X _ x24 41 [none, none, none] [] _
    exact s_vret rfl dX11_tellSteward_41
  · show S0 X _ s17.1 19 [some (.ref (gh (xG X) + a0)), none, some (.int s17.2)] [] _
    have o23 := hs18.ok o15
    refine s_iload_n (pc := 19) 2 dX11_tellSteward_19 rfl rfl ?_
    refine s_aload_n (pc := 20) 0 dX11_tellSteward_20 rfl rfl ?_
    refine s_geto (pc := 21) F_11 0 rfl o23 dX11_tellSteward_21 kf_X11_10 ?_
    refine s_rvB (fun r26 => ?_)
    refine s_grd (fun o27 => ?_)
    refine s_getiN (pc := 24) F_10 8 rfl o27 dX11_tellSteward_24 (List.mem_of_getElem? (i := 9) rfl) ?_
    refine s_icge (pc := 27) 41 dX11_tellSteward_27 rfl ?_ ?_
    · exact s_drop (hR22 s17.1 hs18) trivial
    · refine s_aload_n (pc := 30) 0 dX11_tellSteward_30 rfl rfl ?_
      refine s_iload_n (pc := 31) 2 dX11_tellSteward_31 rfl rfl ?_
      refine s_bind (fun q28 hq29 => ?_)
      have hC30 := t_X11_tellHouse (l := xl X) (G := xG X) hq29
      refine s_callV (pc := 32) (As := [.int s17.2]) (st := []) (nlt rfl) (q := (RX11, TX11, 16)) rfl rfl o23 cl_X11_tellHouse wi_X11_tellHouse wl_X11_tellHouse km_X11_377 rfl rfl (nle rfl) (nle rfl) (nle rfl) dX11_tellSteward_32 hC30 ?_
      have h31 := hC30.1 X
      have o32 := h31.ok o23
      show S0 X _ q28 35 [some (.ref (gh (xG X) + a0)), none, some (.int s17.2)] [] _
      refine s_iinc (pc := 35) dX11_tellSteward_35 rfl (v := s17.2 + 1) (congrArg (fun z : Int32 => s17.2 + z) kc_1) (nlt rfl) rfl (L' := [some (.ref (gh (xG X) + a0)), none, some (.int (s17.2 + 1))]) rfl ?_
      refine s_bv (fun x33 : Int32 => [some (.ref (gh (xG X) + a0)), none, some (.int x33)]) (fun x33 => ?_) rfl
      refine s_goto (pc := 38) 19 dX11_tellSteward_38 rfl ?_
      exact s_drop (hT20 (q28, x33) (hs18.tr h31)) (And.intro rfl (And.intro rfl trivial))
set_option maxRecDepth 100000 in
set_option maxHeartbeats 8000000 in
noncomputable def f_X11_undo (M : Mem) (a0 : Nat) : Option (Mem × Int32) :=
  grd (okO M 11 a0) (Option.bind (mR M a0 0) (fun r2 => grd (okO M 10 r2) (if (mI M r2 8) = 0 then (Option.bind (f_X11_refuse M a0 (-3)) (fun q28 => some (q28.1, q28.2))) else (Option.bind (mR M a0 0) (fun r4 => Option.bind (mR M a0 0) (fun r5 => grd (okO M 10 r5) (grd (okO M 10 r4) (Option.bind (f_X10_keepHouses M r4 ((mI M r5 8) - 1)) (fun q8 => Option.bind (mR q8 a0 0) (fun r13 => grd (okO q8 10 r13) (Option.bind (mR q8 r13 5) (fun r15 => Option.bind (mR q8 a0 0) (fun r16 => grd (okO q8 10 r16) (grd (okO q8 14 r15) (grd (vp_in (mI q8 r16 8) (mL q8 r15)) (Option.bind (f_X6_numberOf (mI q8 r15 (mI q8 r16 8).toNatClampNeg)) (fun q20 => Option.bind (f_X11_accept q8 a0 q20) (fun q23 => some (q23.1, q23.2)))))))))))))))))))
abbrev Y_X11_undo : Sta := (RX11, "undo", cX11_undo, 1, (some .int), 3)
set_option maxRecDepth 100000 in
set_option maxHeartbeats 8000000 in
theorem t_X11_undo {l : Launch} {G : Gh} {M : Mem} {a0 : Nat} {q : Mem × Int32} (h : f_X11_undo M a0 = some q) : Ctr l G yX11_undo Y_X11_undo M [.ref (gh G + a0)] q.1 (some (.int q.2)) := by
  refine Ctr.of (Y := Y_X11_undo) (L := [some (.ref (gh G + a0))]) (t := Option.bind (f_X11_undo M a0) (fun q => some (q.1, some (.int q.2)))) (by decide) rfl rfl (nle rfl) (Lof_in 0 _ rfl) (fun X hG hl => ?_) (by rw [h]; rfl)
  subst hG
  subst hl
  unfold f_X11_undo
  refine s_aload_n (pc := 0) 0 dX11_undo_0 rfl rfl ?_
  refine s_grd (fun o1 => ?_)
  refine s_geto (pc := 1) F_11 0 rfl o1 dX11_undo_1 kf_X11_10 ?_
  refine s_rvB (fun r2 => ?_)
  refine s_grd (fun o3 => ?_)
  refine s_getiN (pc := 4) F_10 8 rfl o3 dX11_undo_4 (List.mem_of_getElem? (i := 9) rfl) ?_
  refine s_ifne (pc := 7) 17 dX11_undo_7 rfl ?_ ?_
  · refine s_aload_n (pc := 17) 0 dX11_undo_17 rfl rfl ?_
    refine s_geto (pc := 18) F_11 0 rfl o1 dX11_undo_18 kf_X11_10 ?_
    refine s_rvB (fun r4 => ?_)
    refine s_aload_n (pc := 21) 0 dX11_undo_21 rfl rfl ?_
    refine s_geto (pc := 22) F_11 0 rfl o1 dX11_undo_22 kf_X11_10 ?_
    refine s_rvB (fun r5 => ?_)
    refine s_grd (fun o6 => ?_)
    refine s_getiN (pc := 25) F_10 8 rfl o6 dX11_undo_25 (List.mem_of_getElem? (i := 9) rfl) ?_
    refine s_iconst (pc := 28) 1 dX11_undo_28 kc_1 ?_
    refine s_isub (pc := 29) dX11_undo_29 ?_
    refine s_grd (fun o7 => ?_)
    refine s_bind (fun q8 hq9 => ?_)
    have hC10 := t_X10_keepHouses (l := xl X) (G := xG X) hq9
    refine s_callV (pc := 30) (As := [.int ((mI M r5 8) - 1)]) (st := []) (nlt rfl) (q := (RX10, TX10, 15)) rfl rfl o7 cl_X10_keepHouses wi_X10_keepHouses wl_X10_keepHouses km_X11_139 rfl rfl (nle rfl) (nle rfl) (nle rfl) dX11_undo_30 hC10 ?_
    have h11 := hC10.1 X
    have o12 := h11.ok o1
    show S0 X _ q8 33 [some (.ref (gh (xG X) + a0))] [] _
    refine s_aload_n (pc := 33) 0 dX11_undo_33 rfl rfl ?_
    refine s_aload_n (pc := 34) 0 dX11_undo_34 rfl rfl ?_
    refine s_geto (pc := 35) F_11 0 rfl o12 dX11_undo_35 kf_X11_10 ?_
    refine s_rvB (fun r13 => ?_)
    refine s_grd (fun o14 => ?_)
    refine s_getoN (pc := 38) F_10 5 rfl o14 dX11_undo_38 (List.mem_of_getElem? (i := 7) rfl) ?_
    refine s_rvB (fun r15 => ?_)
    refine s_aload_n (pc := 41) 0 dX11_undo_41 rfl rfl ?_
    refine s_geto (pc := 42) F_11 0 rfl o12 dX11_undo_42 kf_X11_10 ?_
    refine s_rvB (fun r16 => ?_)
    refine s_grd (fun o17 => ?_)
    refine s_getiN (pc := 45) F_10 8 rfl o17 dX11_undo_45 (List.mem_of_getElem? (i := 9) rfl) ?_
    refine s_grd (fun o18 => ?_)
    refine s_grd (fun i19 => ?_)
    refine s_iald (pc := 48) o18 i19 dX11_undo_48 ?_
    refine s_bind (fun q20 hq21 => ?_)
    have hC22 := t_X6_numberOf (l := xl X) (G := xG X) (M := q8) hq21
    refine s_callS (pc := 49) (As := [.int (mI q8 r15 (mI q8 r16 8).toNatClampNeg)]) (st := [.ref (gh (xG X) + a0)]) cl_X6_numberOf wt_X6_numberOf km_X11_146 rfl rfl (nle rfl) (nle rfl) (nle rfl) dX11_undo_49 hC22 ?_
    show S0 X _ q8 52 [some (.ref (gh (xG X) + a0))] [.int q20, .ref (gh (xG X) + a0)] _
    refine s_bind (fun q23 hq24 => ?_)
    have hC25 := t_X11_accept (l := xl X) (G := xG X) hq24
    refine s_callV (pc := 52) (As := [.int q20]) (st := []) (nlt rfl) (q := (RX11, TX11, 16)) rfl rfl o12 cl_X11_accept wi_X11_accept wl_X11_accept km_X11_108 rfl rfl (nle rfl) (nle rfl) (nle rfl) dX11_undo_52 hC25 ?_
    have h26 := hC25.1 X
    have o27 := h26.ok o12
    show S0 X _ q23.1 55 [some (.ref (gh (xG X) + a0))] [.int q23.2] _
    exact s_iret rfl dX11_undo_55
  · refine s_aload_n (pc := 10) 0 dX11_undo_10 rfl rfl ?_
    refine s_bipush (pc := 11) (-3) dX11_undo_11 kb_m3 ?_
    refine s_bind (fun q28 hq29 => ?_)
    have hC30 := t_X11_refuse (l := xl X) (G := xG X) hq29
    refine s_callV (pc := 13) (As := [.int (-3)]) (st := []) (nlt rfl) (q := (RX11, TX11, 16)) rfl rfl o1 cl_X11_refuse wi_X11_refuse wl_X11_refuse km_X11_97 rfl rfl (nle rfl) (nle rfl) (nle rfl) dX11_undo_13 hC30 ?_
    have h31 := hC30.1 X
    have o32 := h31.ok o1
    show S0 X _ q28.1 16 [some (.ref (gh (xG X) + a0))] [.int q28.2] _
    exact s_iret rfl dX11_undo_16
set_option maxRecDepth 100000 in
set_option maxHeartbeats 8000000 in
noncomputable def f_X12_copies (M : Mem) (a0 : Nat) (p1 : Int32) : Option (Mem × Int32) :=
  Option.bind (f_X12_isDish p1) (fun q1 => if q1 = 0 then (some (M, (-1))) else (Option.bind (loopO (σ := Mem × Int32 × Int32) (ρ := Mem × Int32) (fun s4 => grd (okO s4.1 12 a0) (Option.bind (mR s4.1 a0 3) (fun r13 => grd (okO s4.1 14 r13) (grd (vp_in 56 (mL s4.1 r13)) (if (mI s4.1 r13 (56 : Int32).toNatClampNeg) ≤ s4.2.2 then (some (.inr (s4.1, s4.2.1))) else (Option.bind (loopO (σ := Mem × Int32 × Int32) (ρ := Mem × Int32) (fun s16 => if 6 ≤ s16.2.2 then (some (.inr (s16.1, s16.2.1))) else (Option.bind (f_X12_fact s16.1 a0 s4.2.2 2) (fun q25 => Option.bind (f_X12_has a0 q25 s16.2.2) (fun q28 => bv (fun (s32 : Mem × Int32) => bv (s16.2.2 + 1 : Int32) (fun x36 => some (.inl (s32.1, s32.2, x36)))) (fun j31 => if q28 ≤ 0 then (j31 (s16.1, s16.2.1)) else (Option.bind (f_X12_fact s16.1 a0 s4.2.2 2) (fun q37 => Option.bind (f_X12_without s16.1 a0 q37 s16.2.2) (fun q40 => if q40.2 = p1 then (bv (s16.2.1 ||| (sl 1 s4.2.2) : Int32) (fun x45 => j31 (q40.1, x45))) else (j31 (q40.1, s16.2.1)))))))))) (s4.1, s4.2.1, 0)) (fun (x23 : Mem × Int32) => bv (s4.2.2 + 1 : Int32) (fun x47 => some (.inl (x23.1, x23.2, x47)))))))))) (M, 0, 0)) (fun (x10 : Mem × Int32) => some (x10.1, x10.2))))
abbrev Y_X12_copies : Sta := (RX12, "copies", cX12_copies, 5, (some .int), 3)
set_option maxRecDepth 100000 in
set_option maxHeartbeats 8000000 in
theorem t_X12_copies {l : Launch} {G : Gh} {M : Mem} {a0 : Nat} {p1 : Int32} {q : Mem × Int32} (h : f_X12_copies M a0 p1 = some q) : Ctr l G yX12_copies Y_X12_copies M [.ref (gh G + a0), .int p1] q.1 (some (.int q.2)) := by
  refine Ctr.of (Y := Y_X12_copies) (L := [some (.ref (gh G + a0)), some (.int p1), none, none, none]) (t := Option.bind (f_X12_copies M a0 p1) (fun q => some (q.1, some (.int q.2)))) (by decide) rfl rfl (nle rfl) (Lof_in 3 _ rfl) (fun X hG hl => ?_) (by rw [h]; rfl)
  subst hG
  subst hl
  unfold f_X12_copies
  refine s_iload_n (pc := 0) 1 dX12_copies_0 rfl rfl ?_
  refine s_bind (fun q1 hq2 => ?_)
  have hC3 := t_X12_isDish (l := xl X) (G := xG X) (M := M) hq2
  refine s_callS (pc := 1) (As := [.int p1]) (st := []) cl_X12_isDish wt_X12_isDish km_X12_184 rfl rfl (nle rfl) (nle rfl) (nle rfl) dX12_copies_1 hC3 ?_
  show S0 X _ M 4 [some (.ref (gh (xG X) + a0)), some (.int p1), none, none, none] [.int q1] _
  refine s_ifne (pc := 4) 9 dX12_copies_4 rfl ?_ ?_
  · refine s_iconst (pc := 9) 0 dX12_copies_9 kc_0 ?_
    refine s_istore_n (pc := 10) 2 dX12_copies_10 rfl (nlt rfl) rfl (L' := [some (.ref (gh (xG X) + a0)), some (.int p1), some (.int 0), none, none]) rfl ?_
    refine s_iconst (pc := 11) 0 dX12_copies_11 kc_0 ?_
    refine s_istore_n (pc := 12) 3 dX12_copies_12 rfl (nlt rfl) rfl (L' := [some (.ref (gh (xG X) + a0)), some (.int p1), some (.int 0), some (.int 0), none]) rfl ?_
    refine s_drop (L' := [some (.ref (gh (xG X) + a0)), some (.int p1), some (.int 0), some (.int 0), none]) ?_ (And.intro rfl (And.intro rfl (And.intro rfl (And.intro rfl trivial))))
    refine s_loop1 M (fun s4 : Mem × Int32 × Int32 => s4.1) (fun s4 : Mem × Int32 × Int32 => [some (.ref (gh (xG X) + a0)), some (.int p1), some (.int s4.2.1), some (.int s4.2.2), none]) (fun x10 : Mem × Int32 => x10.1) 83 (fun x10 : Mem × Int32 => [none, none, some (.int x10.2), none, none]) (fun x10 hx11 => ?_) (fun T6 R8 hT7 hR9 s4 hs5 => ?_) (M, 0, 0) Le.rf
    · show S0 X _ x10.1 83 [none, none, some (.int x10.2), none, none] [] _
      refine s_iload_n (pc := 83) 2 dX12_copies_83 rfl rfl ?_
      exact s_iret rfl dX12_copies_84
    · show S0 X _ s4.1 13 [some (.ref (gh (xG X) + a0)), some (.int p1), some (.int s4.2.1), some (.int s4.2.2), none] [] _
      refine s_iload_n (pc := 13) 3 dX12_copies_13 rfl rfl ?_
      refine s_aload_n (pc := 14) 0 dX12_copies_14 rfl rfl ?_
      refine s_grd (fun o12 => ?_)
      refine s_geto (pc := 15) F_12 3 rfl o12 dX12_copies_15 kf_X12_20 ?_
      refine s_rvB (fun r13 => ?_)
      refine s_bipush (pc := 18) 56 dX12_copies_18 kb_56 ?_
      refine s_grd (fun o14 => ?_)
      refine s_grd (fun i15 => ?_)
      refine s_iald (pc := 20) o14 i15 dX12_copies_20 ?_
      refine s_icge (pc := 21) 83 dX12_copies_21 rfl ?_ ?_
      · exact s_drop (hR9 (s4.1, s4.2.1) hs5) (And.intro rfl trivial)
      · refine s_iconst (pc := 24) 0 dX12_copies_24 kc_0 ?_
        refine s_istore (pc := 25) dX12_copies_25 (nlt rfl) rfl (L' := [some (.ref (gh (xG X) + a0)), some (.int p1), some (.int s4.2.1), some (.int s4.2.2), some (.int 0)]) rfl ?_
        refine s_drop (L' := [some (.ref (gh (xG X) + a0)), some (.int p1), some (.int s4.2.1), some (.int s4.2.2), some (.int 0)]) ?_ (And.intro rfl (And.intro rfl (And.intro rfl (And.intro rfl (And.intro rfl trivial)))))
        refine s_loop1 s4.1 (fun s16 : Mem × Int32 × Int32 => s16.1) (fun s16 : Mem × Int32 × Int32 => [some (.ref (gh (xG X) + a0)), some (.int p1), some (.int s16.2.1), some (.int s4.2.2), some (.int s16.2.2)]) (fun x23 : Mem × Int32 => x23.1) 77 (fun x23 : Mem × Int32 => [some (.ref (gh (xG X) + a0)), some (.int p1), some (.int x23.2), some (.int s4.2.2), none]) (fun x23 hx24 => ?_) (fun T18 R20 hT19 hR21 s16 hs17 => ?_) (s4.1, s4.2.1, 0) Le.rf
        · show S0 X _ x23.1 77 [some (.ref (gh (xG X) + a0)), some (.int p1), some (.int x23.2), some (.int s4.2.2), none] [] _
          have o46 := hx24.ok o12
          refine s_iinc (pc := 77) dX12_copies_77 rfl (v := s4.2.2 + 1) (congrArg (fun z : Int32 => s4.2.2 + z) kc_1) (nlt rfl) rfl (L' := [some (.ref (gh (xG X) + a0)), some (.int p1), some (.int x23.2), some (.int (s4.2.2 + 1)), none]) rfl ?_
          refine s_bv (fun x47 : Int32 => [some (.ref (gh (xG X) + a0)), some (.int p1), some (.int x23.2), some (.int x47), none]) (fun x47 => ?_) rfl
          refine s_goto (pc := 80) 13 dX12_copies_80 rfl ?_
          exact s_drop (hT7 (x23.1, x23.2, x47) (hs5.tr hx24)) (And.intro rfl (And.intro rfl (And.intro rfl (And.intro rfl trivial))))
        · show S0 X _ s16.1 27 [some (.ref (gh (xG X) + a0)), some (.int p1), some (.int s16.2.1), some (.int s4.2.2), some (.int s16.2.2)] [] _
          have o22 := hs17.ok o12
          refine s_iload (pc := 27) dX12_copies_27 rfl ?_
          refine s_bipush (pc := 29) 6 dX12_copies_29 kb_6 ?_
          refine s_icge (pc := 31) 77 dX12_copies_31 rfl ?_ ?_
          · exact s_drop (hR21 (s16.1, s16.2.1) hs17) (And.intro rfl (And.intro rfl (And.intro rfl (And.intro rfl trivial))))
          · refine s_aload_n (pc := 34) 0 dX12_copies_34 rfl rfl ?_
            refine s_aload_n (pc := 35) 0 dX12_copies_35 rfl rfl ?_
            refine s_iload_n (pc := 36) 3 dX12_copies_36 rfl rfl ?_
            refine s_iconst (pc := 37) 2 dX12_copies_37 kc_2 ?_
            refine s_bind (fun q25 hq26 => ?_)
            have hC27 := t_X12_fact (l := xl X) (G := xG X) hq26
            refine s_callV (pc := 38) (As := [.int s4.2.2, .int 2]) (st := [.ref (gh (xG X) + a0)]) (nlt rfl) (q := (RX12, TX12, 59)) rfl rfl o22 cl_X12_fact wi_X12_fact wl_X12_fact km_X12_194 rfl rfl (nle rfl) (nle rfl) (nle rfl) dX12_copies_38 hC27 ?_
            show S0 X _ s16.1 41 [some (.ref (gh (xG X) + a0)), some (.int p1), some (.int s16.2.1), some (.int s4.2.2), some (.int s16.2.2)] [.int q25, .ref (gh (xG X) + a0)] _
            refine s_iload (pc := 41) dX12_copies_41 rfl ?_
            refine s_bind (fun q28 hq29 => ?_)
            have hC30 := t_X12_has (l := xl X) (G := xG X) (M := s16.1) hq29
            refine s_callV (pc := 43) (As := [.int q25, .int s16.2.2]) (st := []) (nlt rfl) (q := (RX12, TX12, 59)) rfl rfl o22 cl_X12_has wi_X12_has wl_X12_has km_X12_159 rfl rfl (nle rfl) (nle rfl) (nle rfl) dX12_copies_43 hC30 ?_
            show S0 X _ s16.1 46 [some (.ref (gh (xG X) + a0)), some (.int p1), some (.int s16.2.1), some (.int s4.2.2), some (.int s16.2.2)] [.int q28] _
            refine s_join s16.1 (fun s32 : Mem × Int32 => s32.1) 71 (fun s32 : Mem × Int32 => [some (.ref (gh (xG X) + a0)), some (.int p1), some (.int s32.2), some (.int s4.2.2), some (.int s16.2.2)]) (fun s32 : Mem × Int32 => []) (fun s32 hs33 => ?_) (fun j31 hj34 => ?_)
            · show S0 X _ s32.1 71 [some (.ref (gh (xG X) + a0)), some (.int p1), some (.int s32.2), some (.int s4.2.2), some (.int s16.2.2)] [] _
              have o35 := hs33.ok o22
              refine s_iinc (pc := 71) dX12_copies_71 rfl (v := s16.2.2 + 1) (congrArg (fun z : Int32 => s16.2.2 + z) kc_1) (nlt rfl) rfl (L' := [some (.ref (gh (xG X) + a0)), some (.int p1), some (.int s32.2), some (.int s4.2.2), some (.int (s16.2.2 + 1))]) rfl ?_
              refine s_bv (fun x36 : Int32 => [some (.ref (gh (xG X) + a0)), some (.int p1), some (.int s32.2), some (.int s4.2.2), some (.int x36)]) (fun x36 => ?_) rfl
              refine s_goto (pc := 74) 27 dX12_copies_74 rfl ?_
              exact s_drop (hT19 (s32.1, s32.2, x36) (hs17.tr hs33)) (And.intro rfl (And.intro rfl (And.intro rfl (And.intro rfl (And.intro rfl trivial)))))
            · refine s_ifle (pc := 46) 71 dX12_copies_46 rfl ?_ ?_
              · exact s_drop (hj34 (s16.1, s16.2.1) Le.rf) (And.intro rfl (And.intro rfl (And.intro rfl (And.intro rfl (And.intro rfl trivial)))))
              · refine s_aload_n (pc := 49) 0 dX12_copies_49 rfl rfl ?_
                refine s_aload_n (pc := 50) 0 dX12_copies_50 rfl rfl ?_
                refine s_iload_n (pc := 51) 3 dX12_copies_51 rfl rfl ?_
                refine s_iconst (pc := 52) 2 dX12_copies_52 kc_2 ?_
                refine s_bind (fun q37 hq38 => ?_)
                have hC39 := t_X12_fact (l := xl X) (G := xG X) hq38
                refine s_callV (pc := 53) (As := [.int s4.2.2, .int 2]) (st := [.ref (gh (xG X) + a0)]) (nlt rfl) (q := (RX12, TX12, 59)) rfl rfl o22 cl_X12_fact wi_X12_fact wl_X12_fact km_X12_194 rfl rfl (nle rfl) (nle rfl) (nle rfl) dX12_copies_53 hC39 ?_
                show S0 X _ s16.1 56 [some (.ref (gh (xG X) + a0)), some (.int p1), some (.int s16.2.1), some (.int s4.2.2), some (.int s16.2.2)] [.int q37, .ref (gh (xG X) + a0)] _
                refine s_iload (pc := 56) dX12_copies_56 rfl ?_
                refine s_bind (fun q40 hq41 => ?_)
                have hC42 := t_X12_without (l := xl X) (G := xG X) hq41
                refine s_callV (pc := 58) (As := [.int q37, .int s16.2.2]) (st := []) (nlt rfl) (q := (RX12, TX12, 59)) rfl rfl o22 cl_X12_without wi_X12_without wl_X12_without km_X12_413 rfl rfl (nle rfl) (nle rfl) (nle rfl) dX12_copies_58 hC42 ?_
                have h43 := hC42.1 X
                have o44 := h43.ok o22
                show S0 X _ q40.1 61 [some (.ref (gh (xG X) + a0)), some (.int p1), some (.int s16.2.1), some (.int s4.2.2), some (.int s16.2.2)] [.int q40.2] _
                refine s_iload_n (pc := 61) 1 dX12_copies_61 rfl rfl ?_
                refine s_icne (pc := 62) 71 dX12_copies_62 rfl ?_ ?_
                · exact s_drop (hj34 (q40.1, s16.2.1) h43) (And.intro rfl (And.intro rfl (And.intro rfl (And.intro rfl (And.intro rfl trivial)))))
                · refine s_iload_n (pc := 65) 2 dX12_copies_65 rfl rfl ?_
                  refine s_iconst (pc := 66) 1 dX12_copies_66 kc_1 ?_
                  refine s_iload_n (pc := 67) 3 dX12_copies_67 rfl rfl ?_
                  refine s_ishl (pc := 68) dX12_copies_68 ?_
                  refine s_ior (pc := 69) dX12_copies_69 ?_
                  refine s_istore_n (pc := 70) 2 dX12_copies_70 rfl (nlt rfl) rfl (L' := [some (.ref (gh (xG X) + a0)), some (.int p1), some (.int (s16.2.1 ||| (sl 1 s4.2.2))), some (.int s4.2.2), some (.int s16.2.2)]) rfl ?_
                  refine s_bv (fun x45 : Int32 => [some (.ref (gh (xG X) + a0)), some (.int p1), some (.int x45), some (.int s4.2.2), some (.int s16.2.2)]) (fun x45 => ?_) rfl
                  exact s_drop (hj34 (q40.1, x45) h43) (And.intro rfl (And.intro rfl (And.intro rfl (And.intro rfl (And.intro rfl trivial)))))
  · refine s_iconst (pc := 7) (-1) dX12_copies_7 kc_m1 ?_
    exact s_iret rfl dX12_copies_8
set_option maxRecDepth 100000 in
set_option maxHeartbeats 8000000 in
noncomputable def f_X12_groups (M : Mem) (a0 : Nat) (p1 : Int32) (p2 : Int32) : Option Int32 :=
  Option.bind (loopO (σ := Int32 × Int32) (ρ := Int32) (fun s1 => grd (okO M 12 a0) (Option.bind (mR M a0 3) (fun r10 => grd (okO M 14 r10) (grd (vp_in 56 (mL M r10)) (if (mI M r10 (56 : Int32).toNatClampNeg) ≤ s1.2 then (some (.inr s1.1)) else (Option.bind (f_X12_isOne p1 s1.2) (fun q13 => Option.bind (loopO (σ := Int32 × Int32) (ρ := Int32) (fun s16 => if s1.2 ≤ s16.2 then (some (.inr s16.1)) else (if s16.1 = 0 then (some (.inr s16.1)) else (Option.bind (f_X12_isOne p1 s16.2) (fun q24 => bv (fun (s28 : Int32) => bv (s16.2 + 1 : Int32) (fun x31 => some (.inl (s28, x31)))) (fun j27 => bv (fun (s33 : Unit) => j27 1) (fun j32 => if q24 = 0 then (j32 ()) else (Option.bind (f_X12_areAlike M a0 s1.2 s16.2 p2) (fun q36 => if q36 = 0 then (j32 ()) else (j27 0))))))))) (q13, 0)) (fun (x22 : Int32) => bv (fun (s40 : Int32) => bv (s1.1 + s40 : Int32) (fun x43 => bv (s1.2 + 1 : Int32) (fun x44 => some (.inl (x43, x44))))) (fun j39 => if x22 = 0 then (j39 0) else (j39 1)))))))))) (0, 0)) (fun (x7 : Int32) => some x7)
abbrev Y_X12_groups : Sta := (RX12, "groups", cX12_groups, 7, (some .int), 3)
set_option maxRecDepth 100000 in
set_option maxHeartbeats 8000000 in
theorem t_X12_groups {l : Launch} {G : Gh} {M : Mem} {a0 : Nat} {p1 : Int32} {p2 : Int32} {q : Int32} (h : f_X12_groups M a0 p1 p2 = some q) : Ctr l G yX12_groups Y_X12_groups M [.ref (gh G + a0), .int p1, .int p2] M (some (.int q)) := by
  refine Ctr.of (Y := Y_X12_groups) (L := [some (.ref (gh G + a0)), some (.int p1), some (.int p2), none, none, none, none]) (t := Option.bind (f_X12_groups M a0 p1 p2) (fun q => some (M, some (.int q)))) (by decide) rfl rfl (nle rfl) (Lof_in 4 _ rfl) (fun X hG hl => ?_) (by rw [h]; rfl)
  subst hG
  subst hl
  unfold f_X12_groups
  refine s_iconst (pc := 0) 0 dX12_groups_0 kc_0 ?_
  refine s_istore_n (pc := 1) 3 dX12_groups_1 rfl (nlt rfl) rfl (L' := [some (.ref (gh (xG X) + a0)), some (.int p1), some (.int p2), some (.int 0), none, none, none]) rfl ?_
  refine s_iconst (pc := 2) 0 dX12_groups_2 kc_0 ?_
  refine s_istore (pc := 3) dX12_groups_3 (nlt rfl) rfl (L' := [some (.ref (gh (xG X) + a0)), some (.int p1), some (.int p2), some (.int 0), some (.int 0), none, none]) rfl ?_
  refine s_drop (L' := [some (.ref (gh (xG X) + a0)), some (.int p1), some (.int p2), some (.int 0), some (.int 0), none, none]) ?_ (And.intro rfl (And.intro rfl (And.intro rfl (And.intro rfl (And.intro rfl trivial)))))
  refine s_loop1 M (fun s1 : Int32 × Int32 => M) (fun s1 : Int32 × Int32 => [some (.ref (gh (xG X) + a0)), some (.int p1), some (.int p2), some (.int s1.1), some (.int s1.2), none, none]) (fun x7 : Int32 => M) 93 (fun x7 : Int32 => [none, none, none, some (.int x7), none, none, none]) (fun x7 hx8 => ?_) (fun T3 R5 hT4 hR6 s1 hs2 => ?_) (0, 0) Le.rf
  · show S0 X _ M 93 [none, none, none, some (.int x7), none, none, none] [] _
    refine s_iload_n (pc := 93) 3 dX12_groups_93 rfl rfl ?_
    exact s_iret rfl dX12_groups_94
  · show S0 X _ M 5 [some (.ref (gh (xG X) + a0)), some (.int p1), some (.int p2), some (.int s1.1), some (.int s1.2), none, none] [] _
    refine s_iload (pc := 5) dX12_groups_5 rfl ?_
    refine s_aload_n (pc := 7) 0 dX12_groups_7 rfl rfl ?_
    refine s_grd (fun o9 => ?_)
    refine s_geto (pc := 8) F_12 3 rfl o9 dX12_groups_8 kf_X12_20 ?_
    refine s_rvB (fun r10 => ?_)
    refine s_bipush (pc := 11) 56 dX12_groups_11 kb_56 ?_
    refine s_grd (fun o11 => ?_)
    refine s_grd (fun i12 => ?_)
    refine s_iald (pc := 13) o11 i12 dX12_groups_13 ?_
    refine s_icge (pc := 14) 93 dX12_groups_14 rfl ?_ ?_
    · exact s_drop (hR6 s1.1 Le.rf) (And.intro rfl trivial)
    · refine s_iload_n (pc := 17) 1 dX12_groups_17 rfl rfl ?_
      refine s_iload (pc := 18) dX12_groups_18 rfl ?_
      refine s_bind (fun q13 hq14 => ?_)
      have hC15 := t_X12_isOne (l := xl X) (G := xG X) (M := M) hq14
      refine s_callS (pc := 20) (As := [.int p1, .int s1.2]) (st := []) cl_X12_isOne wt_X12_isOne km_X12_390 rfl rfl (nle rfl) (nle rfl) (nle rfl) dX12_groups_20 hC15 ?_
      show S0 X _ M 23 [some (.ref (gh (xG X) + a0)), some (.int p1), some (.int p2), some (.int s1.1), some (.int s1.2), none, none] [.int q13] _
      refine s_istore (pc := 23) dX12_groups_23 (nlt rfl) rfl (L' := [some (.ref (gh (xG X) + a0)), some (.int p1), some (.int p2), some (.int s1.1), some (.int s1.2), some (.int q13), none]) rfl ?_
      refine s_iconst (pc := 25) 0 dX12_groups_25 kc_0 ?_
      refine s_istore (pc := 26) dX12_groups_26 (nlt rfl) rfl (L' := [some (.ref (gh (xG X) + a0)), some (.int p1), some (.int p2), some (.int s1.1), some (.int s1.2), some (.int q13), some (.int 0)]) rfl ?_
      refine s_drop (L' := [some (.ref (gh (xG X) + a0)), some (.int p1), some (.int p2), some (.int s1.1), some (.int s1.2), some (.int q13), some (.int 0)]) ?_ (And.intro rfl (And.intro rfl (And.intro rfl (And.intro rfl (And.intro rfl (And.intro rfl (And.intro rfl trivial)))))))
      refine s_loop1 M (fun s16 : Int32 × Int32 => M) (fun s16 : Int32 × Int32 => [some (.ref (gh (xG X) + a0)), some (.int p1), some (.int p2), some (.int s1.1), some (.int s1.2), some (.int s16.1), some (.int s16.2)]) (fun x22 : Int32 => M) 74 (fun x22 : Int32 => [some (.ref (gh (xG X) + a0)), some (.int p1), some (.int p2), some (.int s1.1), some (.int s1.2), some (.int x22), none]) (fun x22 hx23 => ?_) (fun T18 R20 hT19 hR21 s16 hs17 => ?_) (q13, 0) Le.rf
      · show S0 X _ M 74 [some (.ref (gh (xG X) + a0)), some (.int p1), some (.int p2), some (.int s1.1), some (.int s1.2), some (.int x22), none] [] _
        refine s_iload_n (pc := 74) 3 dX12_groups_74 rfl rfl ?_
        refine s_iload (pc := 75) dX12_groups_75 rfl ?_
        refine s_join M (fun s40 : Int32 => M) 85 (fun s40 : Int32 => [some (.ref (gh (xG X) + a0)), some (.int p1), some (.int p2), none, some (.int s1.2), none, none]) (fun s40 : Int32 => [.int s40, .int s1.1]) (fun s40 hs41 => ?_) (fun j39 hj42 => ?_)
        · show S0 X _ M 85 [some (.ref (gh (xG X) + a0)), some (.int p1), some (.int p2), none, some (.int s1.2), none, none] [.int s40, .int s1.1] _
          refine s_iadd (pc := 85) dX12_groups_85 ?_
          refine s_istore_n (pc := 86) 3 dX12_groups_86 rfl (nlt rfl) rfl (L' := [some (.ref (gh (xG X) + a0)), some (.int p1), some (.int p2), some (.int (s1.1 + s40)), some (.int s1.2), none, none]) rfl ?_
          refine s_bv (fun x43 : Int32 => [some (.ref (gh (xG X) + a0)), some (.int p1), some (.int p2), some (.int x43), some (.int s1.2), none, none]) (fun x43 => ?_) rfl
          refine s_iinc (pc := 87) dX12_groups_87 rfl (v := s1.2 + 1) (congrArg (fun z : Int32 => s1.2 + z) kc_1) (nlt rfl) rfl (L' := [some (.ref (gh (xG X) + a0)), some (.int p1), some (.int p2), some (.int x43), some (.int (s1.2 + 1)), none, none]) rfl ?_
          refine s_bv (fun x44 : Int32 => [some (.ref (gh (xG X) + a0)), some (.int p1), some (.int p2), some (.int x43), some (.int x44), none, none]) (fun x44 => ?_) rfl
          refine s_goto (pc := 90) 5 dX12_groups_90 rfl ?_
          exact s_drop (hT4 (x43, x44) Le.rf) (And.intro rfl (And.intro rfl (And.intro rfl (And.intro rfl (And.intro rfl trivial)))))
        · refine s_ifeq (pc := 77) 84 dX12_groups_77 rfl ?_ ?_
          · refine s_iconst (pc := 84) 0 dX12_groups_84 kc_0 ?_
            exact s_drop (hj42 0 Le.rf) (And.intro rfl (And.intro rfl (And.intro rfl (And.intro rfl trivial))))
          · refine s_iconst (pc := 80) 1 dX12_groups_80 kc_1 ?_
            refine s_goto (pc := 81) 85 dX12_groups_81 rfl ?_
            exact s_drop (hj42 1 Le.rf) (And.intro rfl (And.intro rfl (And.intro rfl (And.intro rfl trivial))))
      · show S0 X _ M 28 [some (.ref (gh (xG X) + a0)), some (.int p1), some (.int p2), some (.int s1.1), some (.int s1.2), some (.int s16.1), some (.int s16.2)] [] _
        refine s_iload (pc := 28) dX12_groups_28 rfl ?_
        refine s_iload (pc := 30) dX12_groups_30 rfl ?_
        refine s_icge (pc := 32) 74 dX12_groups_32 rfl ?_ ?_
        · exact s_drop (hR21 s16.1 Le.rf) (And.intro rfl (And.intro rfl (And.intro rfl (And.intro rfl (And.intro rfl (And.intro rfl trivial))))))
        · refine s_iload (pc := 35) dX12_groups_35 rfl ?_
          refine s_ifeq (pc := 37) 74 dX12_groups_37 rfl ?_ ?_
          · exact s_drop (hR21 s16.1 Le.rf) (And.intro rfl (And.intro rfl (And.intro rfl (And.intro rfl (And.intro rfl (And.intro rfl trivial))))))
          · refine s_iload_n (pc := 40) 1 dX12_groups_40 rfl rfl ?_
            refine s_iload (pc := 41) dX12_groups_41 rfl ?_
            refine s_bind (fun q24 hq25 => ?_)
            have hC26 := t_X12_isOne (l := xl X) (G := xG X) (M := M) hq25
            refine s_callS (pc := 43) (As := [.int p1, .int s16.2]) (st := []) cl_X12_isOne wt_X12_isOne km_X12_390 rfl rfl (nle rfl) (nle rfl) (nle rfl) dX12_groups_43 hC26 ?_
            show S0 X _ M 46 [some (.ref (gh (xG X) + a0)), some (.int p1), some (.int p2), some (.int s1.1), some (.int s1.2), some (.int s16.1), some (.int s16.2)] [.int q24] _
            refine s_join M (fun s28 : Int32 => M) 66 (fun s28 : Int32 => [some (.ref (gh (xG X) + a0)), some (.int p1), some (.int p2), some (.int s1.1), some (.int s1.2), none, some (.int s16.2)]) (fun s28 : Int32 => [.int s28]) (fun s28 hs29 => ?_) (fun j27 hj30 => ?_)
            · show S0 X _ M 66 [some (.ref (gh (xG X) + a0)), some (.int p1), some (.int p2), some (.int s1.1), some (.int s1.2), none, some (.int s16.2)] [.int s28] _
              refine s_istore (pc := 66) dX12_groups_66 (nlt rfl) rfl (L' := [some (.ref (gh (xG X) + a0)), some (.int p1), some (.int p2), some (.int s1.1), some (.int s1.2), some (.int s28), some (.int s16.2)]) rfl ?_
              refine s_iinc (pc := 68) dX12_groups_68 rfl (v := s16.2 + 1) (congrArg (fun z : Int32 => s16.2 + z) kc_1) (nlt rfl) rfl (L' := [some (.ref (gh (xG X) + a0)), some (.int p1), some (.int p2), some (.int s1.1), some (.int s1.2), some (.int s28), some (.int (s16.2 + 1))]) rfl ?_
              refine s_bv (fun x31 : Int32 => [some (.ref (gh (xG X) + a0)), some (.int p1), some (.int p2), some (.int s1.1), some (.int s1.2), some (.int s28), some (.int x31)]) (fun x31 => ?_) rfl
              refine s_goto (pc := 71) 28 dX12_groups_71 rfl ?_
              exact s_drop (hT19 (s28, x31) Le.rf) (And.intro rfl (And.intro rfl (And.intro rfl (And.intro rfl (And.intro rfl (And.intro rfl (And.intro rfl trivial)))))))
            · refine s_join M (fun s33 : Unit => M) 61 (fun s33 : Unit => [some (.ref (gh (xG X) + a0)), some (.int p1), some (.int p2), some (.int s1.1), some (.int s1.2), none, some (.int s16.2)]) (fun s33 : Unit => []) (fun s33 hs34 => ?_) (fun j32 hj35 => ?_)
              · show S0 X _ M 61 [some (.ref (gh (xG X) + a0)), some (.int p1), some (.int p2), some (.int s1.1), some (.int s1.2), none, some (.int s16.2)] [] _
                refine s_iconst (pc := 61) 1 dX12_groups_61 kc_1 ?_
                refine s_goto (pc := 62) 66 dX12_groups_62 rfl ?_
                exact s_drop (hj30 1 Le.rf) (And.intro rfl (And.intro rfl (And.intro rfl (And.intro rfl (And.intro rfl (And.intro rfl trivial))))))
              · refine s_ifeq (pc := 46) 61 dX12_groups_46 rfl ?_ ?_
                · exact s_drop (hj35 () Le.rf) (And.intro rfl (And.intro rfl (And.intro rfl (And.intro rfl (And.intro rfl (And.intro rfl trivial))))))
                · refine s_aload_n (pc := 49) 0 dX12_groups_49 rfl rfl ?_
                  refine s_iload (pc := 50) dX12_groups_50 rfl ?_
                  refine s_iload (pc := 52) dX12_groups_52 rfl ?_
                  refine s_iload_n (pc := 54) 2 dX12_groups_54 rfl rfl ?_
                  refine s_bind (fun q36 hq37 => ?_)
                  have hC38 := t_X12_areAlike (l := xl X) (G := xG X) hq37
                  refine s_callV (pc := 55) (As := [.int s1.2, .int s16.2, .int p2]) (st := []) (nlt rfl) (q := (RX12, TX12, 59)) rfl rfl o9 cl_X12_areAlike wi_X12_areAlike wl_X12_areAlike km_X12_407 rfl rfl (nle rfl) (nle rfl) (nle rfl) dX12_groups_55 hC38 ?_
                  show S0 X _ M 58 [some (.ref (gh (xG X) + a0)), some (.int p1), some (.int p2), some (.int s1.1), some (.int s1.2), some (.int s16.1), some (.int s16.2)] [.int q36] _
                  refine s_ifne (pc := 58) 65 dX12_groups_58 rfl ?_ ?_
                  · refine s_iconst (pc := 65) 0 dX12_groups_65 kc_0 ?_
                    exact s_drop (hj30 0 Le.rf) (And.intro rfl (And.intro rfl (And.intro rfl (And.intro rfl (And.intro rfl (And.intro rfl trivial))))))
                  · exact s_drop (hj35 () Le.rf) (And.intro rfl (And.intro rfl (And.intro rfl (And.intro rfl (And.intro rfl (And.intro rfl trivial))))))
set_option maxRecDepth 100000 in
set_option maxHeartbeats 8000000 in
noncomputable def f_X12_leaf (M : Mem) (a0 : Nat) : Option Mem :=
  grd (okO M 12 a0) (bv (fun (s3 : Mem) => bv (wI s3 a0 24 ((mI s3 a0 24) + 1)) (fun M7 => Option.bind (f_X12_fine M7 a0) (fun q11 => if q11 = 0 then (some M7) else (bv (wI M7 a0 23 ((mI M7 a0 23) + 1)) (fun M14 => some M14))))) (fun j2 => if (mI M a0 24) = 50 then (Option.bind (f_X12_faults M a0) (fun q18 => j2 q18)) else (j2 M)))
abbrev Y_X12_leaf : Sta := (RX12, "leaf", cX12_leaf, 1, none, 3)
set_option maxRecDepth 100000 in
set_option maxHeartbeats 8000000 in
theorem t_X12_leaf {l : Launch} {G : Gh} {M : Mem} {a0 : Nat} {q : Mem} (h : f_X12_leaf M a0 = some q) : Ctr l G yX12_leaf Y_X12_leaf M [.ref (gh G + a0)] q (none) := by
  refine Ctr.of (Y := Y_X12_leaf) (L := [some (.ref (gh G + a0))]) (t := Option.bind (f_X12_leaf M a0) (fun q => some (q, (none : Option Value)))) (by decide) rfl rfl (nle rfl) (Lof_in 0 _ rfl) (fun X hG hl => ?_) (by rw [h]; rfl)
  subst hG
  subst hl
  unfold f_X12_leaf
  refine s_aload_n (pc := 0) 0 dX12_leaf_0 rfl rfl ?_
  refine s_grd (fun o1 => ?_)
  refine s_geti (pc := 1) F_12 24 rfl o1 dX12_leaf_1 kf_X12_246 ?_
  refine s_bipush (pc := 4) 50 dX12_leaf_4 kb_50 ?_
  refine s_join M (fun s3 : Mem => s3) 13 (fun s3 : Mem => [some (.ref (gh (xG X) + a0))]) (fun s3 : Mem => []) (fun s3 hs4 => ?_) (fun j2 hj5 => ?_)
  · show S0 X _ s3 13 [some (.ref (gh (xG X) + a0))] [] _
    have o6 := hs4.ok o1
    refine s_aload_n (pc := 13) 0 dX12_leaf_13 rfl rfl ?_
    refine s_dup (pc := 14) dX12_leaf_14 rfl ?_
    refine s_geti (pc := 15) F_12 24 rfl o6 dX12_leaf_15 kf_X12_246 ?_
    refine s_iconst (pc := 18) 1 dX12_leaf_18 kc_1 ?_
    refine s_iadd (pc := 19) dX12_leaf_19 ?_
    refine s_puti (pc := 20) F_12 24 rfl o6 rfl rfl rfl dX12_leaf_20 kf_X12_246 (fun M7 hM8 => ?_)
    have h9 := le_wI hM8
    have o10 := h9.ok o6
    refine s_aload_n (pc := 23) 0 dX12_leaf_23 rfl rfl ?_
    refine s_bind (fun q11 hq12 => ?_)
    have hC13 := t_X12_fine (l := xl X) (G := xG X) hq12
    refine s_callV (pc := 24) (As := []) (st := []) (nlt rfl) (q := (RX12, TX12, 59)) rfl rfl o10 cl_X12_fine wi_X12_fine wl_X12_fine km_X12_233 rfl rfl (nle rfl) (nle rfl) (nle rfl) dX12_leaf_24 hC13 ?_
    show S0 X _ M7 27 [some (.ref (gh (xG X) + a0))] [.int q11] _
    refine s_ifeq (pc := 27) 40 dX12_leaf_27 rfl ?_ ?_
    · exact s_vret rfl dX12_leaf_40
    · refine s_aload_n (pc := 30) 0 dX12_leaf_30 rfl rfl ?_
      refine s_dup (pc := 31) dX12_leaf_31 rfl ?_
      refine s_geti (pc := 32) F_12 23 rfl o10 dX12_leaf_32 kf_X12_237 ?_
      refine s_iconst (pc := 35) 1 dX12_leaf_35 kc_1 ?_
      refine s_iadd (pc := 36) dX12_leaf_36 ?_
      refine s_puti (pc := 37) F_12 23 rfl o10 rfl rfl rfl dX12_leaf_37 kf_X12_237 (fun M14 hM15 => ?_)
      have h16 := le_wI hM15
      have o17 := h16.ok o10
      exact s_vret rfl dX12_leaf_40
  · refine s_icne (pc := 6) 13 dX12_leaf_6 rfl ?_ ?_
    · exact s_drop (hj5 M Le.rf) (And.intro rfl trivial)
    · refine s_aload_n (pc := 9) 0 dX12_leaf_9 rfl rfl ?_
      refine s_bind (fun q18 hq19 => ?_)
      have hC20 := t_X12_faults (l := xl X) (G := xG X) hq19
      refine s_callV (pc := 10) (As := []) (st := []) (nlt rfl) (q := (RX12, TX12, 59)) rfl rfl o1 cl_X12_faults wi_X12_faults wl_X12_faults km_X12_243 rfl rfl (nle rfl) (nle rfl) (nle rfl) dX12_leaf_10 hC20 ?_
      have h21 := hC20.1 X
      have o22 := h21.ok o1
      show S0 X _ q18 13 [some (.ref (gh (xG X) + a0))] [] _
      exact s_drop (hj5 q18 h21) (And.intro rfl trivial)
set_option maxRecDepth 100000 in
set_option maxHeartbeats 8000000 in
noncomputable def f_X12_must (M : Mem) (a0 : Nat) (p1 : Int32) : Option Mem :=
  grd (okO M 12 a0) (Option.bind (f_X12_takes0 M a0 p1) (fun q2 => if q2.2 = 0 then (Option.bind (f_X12_faults q2.1 a0) (fun q7 => some q7)) else (some q2.1)))
abbrev Y_X12_must : Sta := (RX12, "must", cX12_must, 2, none, 3)
set_option maxRecDepth 100000 in
set_option maxHeartbeats 8000000 in
theorem t_X12_must {l : Launch} {G : Gh} {M : Mem} {a0 : Nat} {p1 : Int32} {q : Mem} (h : f_X12_must M a0 p1 = some q) : Ctr l G yX12_must Y_X12_must M [.ref (gh G + a0), .int p1] q (none) := by
  refine Ctr.of (Y := Y_X12_must) (L := [some (.ref (gh G + a0)), some (.int p1)]) (t := Option.bind (f_X12_must M a0 p1) (fun q => some (q, (none : Option Value)))) (by decide) rfl rfl (nle rfl) (Lof_in 0 _ rfl) (fun X hG hl => ?_) (by rw [h]; rfl)
  subst hG
  subst hl
  unfold f_X12_must
  refine s_aload_n (pc := 0) 0 dX12_must_0 rfl rfl ?_
  refine s_iload_n (pc := 1) 1 dX12_must_1 rfl rfl ?_
  refine s_grd (fun o1 => ?_)
  refine s_bind (fun q2 hq3 => ?_)
  have hC4 := t_X12_takes0 (l := xl X) (G := xG X) hq3
  refine s_callV (pc := 2) (As := [.int p1]) (st := []) (nlt rfl) (q := (RX12, TX12, 59)) rfl rfl o1 cl_X12_takes0 wi_X12_takes0 wl_X12_takes0 km_X12_240 rfl rfl (nle rfl) (nle rfl) (nle rfl) dX12_must_2 hC4 ?_
  have h5 := hC4.1 X
  have o6 := h5.ok o1
  show S0 X _ q2.1 5 [some (.ref (gh (xG X) + a0)), some (.int p1)] [.int q2.2] _
  refine s_ifne (pc := 5) 12 dX12_must_5 rfl ?_ ?_
  · exact s_vret rfl dX12_must_12
  · refine s_aload_n (pc := 8) 0 dX12_must_8 rfl rfl ?_
    refine s_bind (fun q7 hq8 => ?_)
    have hC9 := t_X12_faults (l := xl X) (G := xG X) hq8
    refine s_callV (pc := 9) (As := []) (st := []) (nlt rfl) (q := (RX12, TX12, 59)) rfl rfl o6 cl_X12_faults wi_X12_faults wl_X12_faults km_X12_243 rfl rfl (nle rfl) (nle rfl) (nle rfl) dX12_must_9 hC9 ?_
    have h10 := hC9.1 X
    have o11 := h10.ok o6
    show S0 X _ q7 12 [some (.ref (gh (xG X) + a0)), some (.int p1)] [] _
    exact s_vret rfl dX12_must_12
