set_option maxRecDepth 100000 in
set_option maxHeartbeats 8000000 in
noncomputable def f_X12_tastings (M : Mem) (a0 : Nat) (p1 : Int32) (p2 : Int32) : Option Int32 :=
  grd (okO M 12 a0) (Option.bind (f_X12_areHouses M a0 p1) (fun q2 => if q2 = 0 then (some (-1)) else (Option.bind (f_X12_lies p2 0 3) (fun q5 => if q5 = 0 then (some (-1)) else (Option.bind (f_X12_groups M a0 p1 63) (fun q8 => Option.bind (loopO (σ := Int32 × Int32 × Int32) (ρ := Int32 × Int32) (fun s11 => if 64 ≤ s11.2.2 then (some (.inr (s11.1, s11.2.1))) else (Option.bind (f_X12_groups M a0 p1 s11.2.2) (fun q19 => bv (fun (s23 : Int32 × Int32) => bv (s11.2.2 + 1 : Int32) (fun x26 => some (.inl (s23.1, s23.2, x26)))) (fun j22 => if q19 < q8 then (j22 (s11.1, s11.2.1)) else (bv (fun (s28 : Unit) => bv (fun (s32 : Int32 × Int32) => bv (s32.2 + 1 : Int32) (fun x35 => j22 (s32.1, x35))) (fun j31 => bv (fun (s37 : Unit) => j31 (s11.2.2, 0)) (fun j36 => if s11.1 = (-1) then (j36 ()) else (Option.bind (f_X12_ones s11.2.2) (fun q40 => Option.bind (f_X12_ones s11.1) (fun q43 => if q43 ≤ q40 then (j31 (s11.1, s11.2.1)) else (j36 ()))))))) (fun j27 => if s11.1 = (-1) then (j27 ()) else (Option.bind (f_X12_ones s11.2.2) (fun q46 => Option.bind (f_X12_ones s11.1) (fun q49 => if q46 ≤ q49 then (j27 ()) else (j22 (s11.1, s11.2.1))))))))))) ((-1), 0, 0)) (fun (x17 : Int32 × Int32) => if p2 = 0 then (Option.bind (f_X12_ones x17.1) (fun q52 => some q52)) else (if p2 = 1 then (some x17.1) else (if p2 = 2 then (some x17.2) else (some q8))))))))))
abbrev Y_X12_tastings : Sta := (RX12, "tastings", cX12_tastings, 7, (some .int), 4)
set_option maxRecDepth 100000 in
set_option maxHeartbeats 8000000 in
theorem t_X12_tastings {l : Launch} {G : Gh} {M : Mem} {a0 : Nat} {p1 : Int32} {p2 : Int32} {q : Int32} (h : f_X12_tastings M a0 p1 p2 = some q) : Ctr l G yX12_tastings Y_X12_tastings M [.ref (gh G + a0), .int p1, .int p2] M (some (.int q)) := by
  refine Ctr.of (Y := Y_X12_tastings) (L := [some (.ref (gh G + a0)), some (.int p1), some (.int p2), none, none, none, none]) (t := Option.bind (f_X12_tastings M a0 p1 p2) (fun q => some (M, some (.int q)))) (by decide) rfl rfl (nle rfl) (Lof_in 4 _ rfl) (fun X hG hl => ?_) (by rw [h]; rfl)
  subst hG
  subst hl
  unfold f_X12_tastings
  refine s_aload_n (pc := 0) 0 dX12_tastings_0 rfl rfl ?_
  refine s_iload_n (pc := 1) 1 dX12_tastings_1 rfl rfl ?_
  refine s_grd (fun o1 => ?_)
  refine s_bind (fun q2 hq3 => ?_)
  have hC4 := t_X12_areHouses (l := xl X) (G := xG X) hq3
  refine s_callV (pc := 2) (As := [.int p1]) (st := []) (nlt rfl) (q := (RX12, TX12, 59)) rfl rfl o1 cl_X12_areHouses wi_X12_areHouses wl_X12_areHouses km_X12_387 rfl rfl (nle rfl) (nle rfl) (nle rfl) dX12_tastings_2 hC4 ?_
  show S0 X _ M 5 [some (.ref (gh (xG X) + a0)), some (.int p1), some (.int p2), none, none, none, none] [.int q2] _
  refine s_ifeq (pc := 5) 17 dX12_tastings_5 rfl ?_ ?_
  · refine s_iconst (pc := 17) (-1) dX12_tastings_17 kc_m1 ?_
    exact s_iret rfl dX12_tastings_18
  · refine s_iload_n (pc := 8) 2 dX12_tastings_8 rfl rfl ?_
    refine s_iconst (pc := 9) 0 dX12_tastings_9 kc_0 ?_
    refine s_iconst (pc := 10) 3 dX12_tastings_10 kc_3 ?_
    refine s_bind (fun q5 hq6 => ?_)
    have hC7 := t_X12_lies (l := xl X) (G := xG X) (M := M) hq6
    refine s_callS (pc := 11) (As := [.int p2, .int 0, .int 3]) (st := []) cl_X12_lies wt_X12_lies km_X12_123 rfl rfl (nle rfl) (nle rfl) (nle rfl) dX12_tastings_11 hC7 ?_
    show S0 X _ M 14 [some (.ref (gh (xG X) + a0)), some (.int p1), some (.int p2), none, none, none, none] [.int q5] _
    refine s_ifne (pc := 14) 19 dX12_tastings_14 rfl ?_ ?_
    · refine s_aload_n (pc := 19) 0 dX12_tastings_19 rfl rfl ?_
      refine s_iload_n (pc := 20) 1 dX12_tastings_20 rfl rfl ?_
      refine s_bipush (pc := 21) 63 dX12_tastings_21 kb_63 ?_
      refine s_bind (fun q8 hq9 => ?_)
      have hC10 := t_X12_groups (l := xl X) (G := xG X) hq9
      refine s_callV (pc := 23) (As := [.int p1, .int 63]) (st := []) (nlt rfl) (q := (RX12, TX12, 59)) rfl rfl o1 cl_X12_groups wi_X12_groups wl_X12_groups km_X12_410 rfl rfl (nle rfl) (nle rfl) (nle rfl) dX12_tastings_23 hC10 ?_
      show S0 X _ M 26 [some (.ref (gh (xG X) + a0)), some (.int p1), some (.int p2), none, none, none, none] [.int q8] _
      refine s_istore_n (pc := 26) 3 dX12_tastings_26 rfl (nlt rfl) rfl (L' := [some (.ref (gh (xG X) + a0)), some (.int p1), some (.int p2), some (.int q8), none, none, none]) rfl ?_
      refine s_iconst (pc := 27) (-1) dX12_tastings_27 kc_m1 ?_
      refine s_istore (pc := 28) dX12_tastings_28 (nlt rfl) rfl (L' := [some (.ref (gh (xG X) + a0)), some (.int p1), some (.int p2), some (.int q8), some (.int (-1)), none, none]) rfl ?_
      refine s_iconst (pc := 30) 0 dX12_tastings_30 kc_0 ?_
      refine s_istore (pc := 31) dX12_tastings_31 (nlt rfl) rfl (L' := [some (.ref (gh (xG X) + a0)), some (.int p1), some (.int p2), some (.int q8), some (.int (-1)), some (.int 0), none]) rfl ?_
      refine s_iconst (pc := 33) 0 dX12_tastings_33 kc_0 ?_
      refine s_istore (pc := 34) dX12_tastings_34 (nlt rfl) rfl (L' := [some (.ref (gh (xG X) + a0)), some (.int p1), some (.int p2), some (.int q8), some (.int (-1)), some (.int 0), some (.int 0)]) rfl ?_
      refine s_drop (L' := [some (.ref (gh (xG X) + a0)), some (.int p1), some (.int p2), some (.int q8), some (.int (-1)), some (.int 0), some (.int 0)]) ?_ (And.intro rfl (And.intro rfl (And.intro rfl (And.intro rfl (And.intro rfl (And.intro rfl (And.intro rfl trivial)))))))
      refine s_loop1 M (fun s11 : Int32 × Int32 × Int32 => M) (fun s11 : Int32 × Int32 × Int32 => [some (.ref (gh (xG X) + a0)), some (.int p1), some (.int p2), some (.int q8), some (.int s11.1), some (.int s11.2.1), some (.int s11.2.2)]) (fun x17 : Int32 × Int32 => M) 111 (fun x17 : Int32 × Int32 => [none, none, some (.int p2), some (.int q8), some (.int x17.1), some (.int x17.2), none]) (fun x17 hx18 => ?_) (fun T13 R15 hT14 hR16 s11 hs12 => ?_) ((-1), 0, 0) Le.rf
      · show S0 X _ M 111 [none, none, some (.int p2), some (.int q8), some (.int x17.1), some (.int x17.2), none] [] _
        refine s_iload_n (pc := 111) 2 dX12_tastings_111 rfl rfl ?_
        refine s_ifne (pc := 112) 123 dX12_tastings_112 rfl ?_ ?_
        · refine s_iload_n (pc := 123) 2 dX12_tastings_123 rfl rfl ?_
          refine s_iconst (pc := 124) 1 dX12_tastings_124 kc_1 ?_
          refine s_icne (pc := 125) 133 dX12_tastings_125 rfl ?_ ?_
          · refine s_iload_n (pc := 133) 2 dX12_tastings_133 rfl rfl ?_
            refine s_iconst (pc := 134) 2 dX12_tastings_134 kc_2 ?_
            refine s_icne (pc := 135) 143 dX12_tastings_135 rfl ?_ ?_
            · refine s_iload_n (pc := 143) 3 dX12_tastings_143 rfl rfl ?_
              exact s_iret rfl dX12_tastings_144
            · refine s_iload (pc := 138) dX12_tastings_138 rfl ?_
              refine s_goto (pc := 140) 144 dX12_tastings_140 rfl ?_
              exact s_iret rfl dX12_tastings_144
          · refine s_iload (pc := 128) dX12_tastings_128 rfl ?_
            refine s_goto (pc := 130) 144 dX12_tastings_130 rfl ?_
            exact s_iret rfl dX12_tastings_144
        · refine s_iload (pc := 115) dX12_tastings_115 rfl ?_
          refine s_bind (fun q52 hq53 => ?_)
          have hC54 := t_X12_ones (l := xl X) (G := xG X) (M := M) hq53
          refine s_callS (pc := 117) (As := [.int x17.1]) (st := []) cl_X12_ones wt_X12_ones km_X12_396 rfl rfl (nle rfl) (nle rfl) (nle rfl) dX12_tastings_117 hC54 ?_
          show S0 X _ M 120 [none, none, some (.int p2), some (.int q8), some (.int x17.1), some (.int x17.2), none] [.int q52] _
          refine s_goto (pc := 120) 144 dX12_tastings_120 rfl ?_
          exact s_iret rfl dX12_tastings_144
      · show S0 X _ M 36 [some (.ref (gh (xG X) + a0)), some (.int p1), some (.int p2), some (.int q8), some (.int s11.1), some (.int s11.2.1), some (.int s11.2.2)] [] _
        refine s_iload (pc := 36) dX12_tastings_36 rfl ?_
        refine s_bipush (pc := 38) 64 dX12_tastings_38 kb_64 ?_
        refine s_icge (pc := 40) 111 dX12_tastings_40 rfl ?_ ?_
        · exact s_drop (hR16 (s11.1, s11.2.1) Le.rf) (And.intro rfl (And.intro rfl (And.intro rfl (And.intro rfl trivial))))
        · refine s_aload_n (pc := 43) 0 dX12_tastings_43 rfl rfl ?_
          refine s_iload_n (pc := 44) 1 dX12_tastings_44 rfl rfl ?_
          refine s_iload (pc := 45) dX12_tastings_45 rfl ?_
          refine s_bind (fun q19 hq20 => ?_)
          have hC21 := t_X12_groups (l := xl X) (G := xG X) hq20
          refine s_callV (pc := 47) (As := [.int p1, .int s11.2.2]) (st := []) (nlt rfl) (q := (RX12, TX12, 59)) rfl rfl o1 cl_X12_groups wi_X12_groups wl_X12_groups km_X12_410 rfl rfl (nle rfl) (nle rfl) (nle rfl) dX12_tastings_47 hC21 ?_
          show S0 X _ M 50 [some (.ref (gh (xG X) + a0)), some (.int p1), some (.int p2), some (.int q8), some (.int s11.1), some (.int s11.2.1), some (.int s11.2.2)] [.int q19] _
          refine s_iload_n (pc := 50) 3 dX12_tastings_50 rfl rfl ?_
          refine s_join M (fun s23 : Int32 × Int32 => M) 105 (fun s23 : Int32 × Int32 => [some (.ref (gh (xG X) + a0)), some (.int p1), some (.int p2), some (.int q8), some (.int s23.1), some (.int s23.2), some (.int s11.2.2)]) (fun s23 : Int32 × Int32 => []) (fun s23 hs24 => ?_) (fun j22 hj25 => ?_)
          · show S0 X _ M 105 [some (.ref (gh (xG X) + a0)), some (.int p1), some (.int p2), some (.int q8), some (.int s23.1), some (.int s23.2), some (.int s11.2.2)] [] _
            refine s_iinc (pc := 105) dX12_tastings_105 rfl (v := s11.2.2 + 1) (congrArg (fun z : Int32 => s11.2.2 + z) kc_1) (nlt rfl) rfl (L' := [some (.ref (gh (xG X) + a0)), some (.int p1), some (.int p2), some (.int q8), some (.int s23.1), some (.int s23.2), some (.int (s11.2.2 + 1))]) rfl ?_
            refine s_bv (fun x26 : Int32 => [some (.ref (gh (xG X) + a0)), some (.int p1), some (.int p2), some (.int q8), some (.int s23.1), some (.int s23.2), some (.int x26)]) (fun x26 => ?_) rfl
            refine s_goto (pc := 108) 36 dX12_tastings_108 rfl ?_
            exact s_drop (hT14 (s23.1, s23.2, x26) Le.rf) (And.intro rfl (And.intro rfl (And.intro rfl (And.intro rfl (And.intro rfl (And.intro rfl (And.intro rfl trivial)))))))
          · refine s_iclt (pc := 51) 105 dX12_tastings_51 rfl ?_ ?_
            · exact s_drop (hj25 (s11.1, s11.2.1) Le.rf) (And.intro rfl (And.intro rfl (And.intro rfl (And.intro rfl (And.intro rfl (And.intro rfl (And.intro rfl trivial)))))))
            · refine s_iload (pc := 54) dX12_tastings_54 rfl ?_
              refine s_iconst (pc := 56) (-1) dX12_tastings_56 kc_m1 ?_
              refine s_join M (fun s28 : Unit => M) 76 (fun s28 : Unit => [some (.ref (gh (xG X) + a0)), some (.int p1), some (.int p2), some (.int q8), some (.int s11.1), some (.int s11.2.1), some (.int s11.2.2)]) (fun s28 : Unit => []) (fun s28 hs29 => ?_) (fun j27 hj30 => ?_)
              · show S0 X _ M 76 [some (.ref (gh (xG X) + a0)), some (.int p1), some (.int p2), some (.int q8), some (.int s11.1), some (.int s11.2.1), some (.int s11.2.2)] [] _
                refine s_iload (pc := 76) dX12_tastings_76 rfl ?_
                refine s_iconst (pc := 78) (-1) dX12_tastings_78 kc_m1 ?_
                refine s_join M (fun s32 : Int32 × Int32 => M) 102 (fun s32 : Int32 × Int32 => [some (.ref (gh (xG X) + a0)), some (.int p1), some (.int p2), some (.int q8), some (.int s32.1), some (.int s32.2), some (.int s11.2.2)]) (fun s32 : Int32 × Int32 => []) (fun s32 hs33 => ?_) (fun j31 hj34 => ?_)
                · show S0 X _ M 102 [some (.ref (gh (xG X) + a0)), some (.int p1), some (.int p2), some (.int q8), some (.int s32.1), some (.int s32.2), some (.int s11.2.2)] [] _
                  refine s_iinc (pc := 102) dX12_tastings_102 rfl (v := s32.2 + 1) (congrArg (fun z : Int32 => s32.2 + z) kc_1) (nlt rfl) rfl (L' := [some (.ref (gh (xG X) + a0)), some (.int p1), some (.int p2), some (.int q8), some (.int s32.1), some (.int (s32.2 + 1)), some (.int s11.2.2)]) rfl ?_
                  refine s_bv (fun x35 : Int32 => [some (.ref (gh (xG X) + a0)), some (.int p1), some (.int p2), some (.int q8), some (.int s32.1), some (.int x35), some (.int s11.2.2)]) (fun x35 => ?_) rfl
                  exact s_drop (hj25 (s32.1, x35) Le.rf) (And.intro rfl (And.intro rfl (And.intro rfl (And.intro rfl (And.intro rfl (And.intro rfl (And.intro rfl trivial)))))))
                · refine s_join M (fun s37 : Unit => M) 95 (fun s37 : Unit => [some (.ref (gh (xG X) + a0)), some (.int p1), some (.int p2), some (.int q8), none, none, some (.int s11.2.2)]) (fun s37 : Unit => []) (fun s37 hs38 => ?_) (fun j36 hj39 => ?_)
                  · show S0 X _ M 95 [some (.ref (gh (xG X) + a0)), some (.int p1), some (.int p2), some (.int q8), none, none, some (.int s11.2.2)] [] _
                    refine s_iload (pc := 95) dX12_tastings_95 rfl ?_
                    refine s_istore (pc := 97) dX12_tastings_97 (nlt rfl) rfl (L' := [some (.ref (gh (xG X) + a0)), some (.int p1), some (.int p2), some (.int q8), some (.int s11.2.2), none, some (.int s11.2.2)]) rfl ?_
                    refine s_iconst (pc := 99) 0 dX12_tastings_99 kc_0 ?_
                    refine s_istore (pc := 100) dX12_tastings_100 (nlt rfl) rfl (L' := [some (.ref (gh (xG X) + a0)), some (.int p1), some (.int p2), some (.int q8), some (.int s11.2.2), some (.int 0), some (.int s11.2.2)]) rfl ?_
                    exact s_drop (hj34 (s11.2.2, 0) Le.rf) (And.intro rfl (And.intro rfl (And.intro rfl (And.intro rfl (And.intro rfl (And.intro rfl (And.intro rfl trivial)))))))
                  · refine s_iceq (pc := 79) 95 dX12_tastings_79 rfl ?_ ?_
                    · exact s_drop (hj39 () Le.rf) (And.intro rfl (And.intro rfl (And.intro rfl (And.intro rfl (And.intro rfl trivial)))))
                    · refine s_iload (pc := 82) dX12_tastings_82 rfl ?_
                      refine s_bind (fun q40 hq41 => ?_)
                      have hC42 := t_X12_ones (l := xl X) (G := xG X) (M := M) hq41
                      refine s_callS (pc := 84) (As := [.int s11.2.2]) (st := []) cl_X12_ones wt_X12_ones km_X12_396 rfl rfl (nle rfl) (nle rfl) (nle rfl) dX12_tastings_84 hC42 ?_
                      show S0 X _ M 87 [some (.ref (gh (xG X) + a0)), some (.int p1), some (.int p2), some (.int q8), some (.int s11.1), some (.int s11.2.1), some (.int s11.2.2)] [.int q40] _
                      refine s_iload (pc := 87) dX12_tastings_87 rfl ?_
                      refine s_bind (fun q43 hq44 => ?_)
                      have hC45 := t_X12_ones (l := xl X) (G := xG X) (M := M) hq44
                      refine s_callS (pc := 89) (As := [.int s11.1]) (st := [.int q40]) cl_X12_ones wt_X12_ones km_X12_396 rfl rfl (nle rfl) (nle rfl) (nle rfl) dX12_tastings_89 hC45 ?_
                      show S0 X _ M 92 [some (.ref (gh (xG X) + a0)), some (.int p1), some (.int p2), some (.int q8), some (.int s11.1), some (.int s11.2.1), some (.int s11.2.2)] [.int q43, .int q40] _
                      refine s_icge (pc := 92) 102 dX12_tastings_92 rfl ?_ ?_
                      · exact s_drop (hj34 (s11.1, s11.2.1) Le.rf) (And.intro rfl (And.intro rfl (And.intro rfl (And.intro rfl (And.intro rfl (And.intro rfl (And.intro rfl trivial)))))))
                      · exact s_drop (hj39 () Le.rf) (And.intro rfl (And.intro rfl (And.intro rfl (And.intro rfl (And.intro rfl trivial)))))
              · refine s_iceq (pc := 57) 76 dX12_tastings_57 rfl ?_ ?_
                · exact s_drop (hj30 () Le.rf) (And.intro rfl (And.intro rfl (And.intro rfl (And.intro rfl (And.intro rfl (And.intro rfl (And.intro rfl trivial)))))))
                · refine s_iload (pc := 60) dX12_tastings_60 rfl ?_
                  refine s_bind (fun q46 hq47 => ?_)
                  have hC48 := t_X12_ones (l := xl X) (G := xG X) (M := M) hq47
                  refine s_callS (pc := 62) (As := [.int s11.2.2]) (st := []) cl_X12_ones wt_X12_ones km_X12_396 rfl rfl (nle rfl) (nle rfl) (nle rfl) dX12_tastings_62 hC48 ?_
                  show S0 X _ M 65 [some (.ref (gh (xG X) + a0)), some (.int p1), some (.int p2), some (.int q8), some (.int s11.1), some (.int s11.2.1), some (.int s11.2.2)] [.int q46] _
                  refine s_iload (pc := 65) dX12_tastings_65 rfl ?_
                  refine s_bind (fun q49 hq50 => ?_)
                  have hC51 := t_X12_ones (l := xl X) (G := xG X) (M := M) hq50
                  refine s_callS (pc := 67) (As := [.int s11.1]) (st := [.int q46]) cl_X12_ones wt_X12_ones km_X12_396 rfl rfl (nle rfl) (nle rfl) (nle rfl) dX12_tastings_67 hC51 ?_
                  show S0 X _ M 70 [some (.ref (gh (xG X) + a0)), some (.int p1), some (.int p2), some (.int q8), some (.int s11.1), some (.int s11.2.1), some (.int s11.2.2)] [.int q49, .int q46] _
                  refine s_icle (pc := 70) 76 dX12_tastings_70 rfl ?_ ?_
                  · exact s_drop (hj30 () Le.rf) (And.intro rfl (And.intro rfl (And.intro rfl (And.intro rfl (And.intro rfl (And.intro rfl (And.intro rfl trivial)))))))
                  · refine s_goto (pc := 73) 105 dX12_tastings_73 rfl ?_
                    exact s_drop (hj25 (s11.1, s11.2.1) Le.rf) (And.intro rfl (And.intro rfl (And.intro rfl (And.intro rfl (And.intro rfl (And.intro rfl (And.intro rfl trivial)))))))
    · refine s_iconst (pc := 17) (-1) dX12_tastings_17 kc_m1 ?_
      exact s_iret rfl dX12_tastings_18
set_option maxRecDepth 100000 in
set_option maxHeartbeats 8000000 in
noncomputable def f_X8_weightOf (M : Mem) (a0 : Nat) (p1 : Int32) (p2 : Int32) (p3 : Int32) (p4 : Int32) (p5 : Int32) : Option (Mem × Int32) :=
  bv (fun (s2 : Unit) => grd (okO M 8 a0) (ncase (mR M a0 3) (some (M, 1)) (fun r6 => bv ((((((((p1 * 6) + p2) * 6) + p3) * 6) + p4) * 6) + p5 : Int32) (fun x7 => if x7 < 0 then (some (M, (-1))) else (if x7 < 6480 then (Option.bind (mR M a0 2) (fun r8 => grd (okO M 14 r8) (grd (vp_in x7 (mL M r8)) (bv (fun (s12 : Mem) => Option.bind (mR s12 a0 2) (fun r16 => grd (okO s12 14 r16) (grd (vp_in x7 (mL s12 r16)) (some (s12, ((mI s12 r16 x7.toNatClampNeg) &&& 127) - 1))))) (fun j11 => if (sr (mI M r8 x7.toNatClampNeg) 7) = (mI M a0 4) then (j11 M) else (Option.bind (mR M a0 1) (fun r19 => grd (okO M 3 r19) (Option.bind (mR M r19 0) (fun r21 => grd (okO M 14 r21) (grd (vp_in 0 (mL M r21)) (bv (wI M r21 (0 : Int32).toNatClampNeg p1) (fun M24 => grd (vp_in 1 (mL M24 r21)) (bv (wI M24 r21 (1 : Int32).toNatClampNeg p2) (fun M30 => grd (vp_in 2 (mL M30 r21)) (bv (wI M30 r21 (2 : Int32).toNatClampNeg p3) (fun M36 => grd (vp_in 3 (mL M36 r21)) (bv (wI M36 r21 (3 : Int32).toNatClampNeg p4) (fun M42 => grd (vp_in 4 (mL M42 r21)) (bv (wI M42 r21 (4 : Int32).toNatClampNeg p5) (fun M48 => Option.bind (mR M48 a0 0) (fun r53 => grd (okO M48 10 r53) (Option.bind (mR M48 r53 0) (fun r55 => grd (okO M48 14 r55) (grd (vp_in p2 (mL M48 r55)) (grd (vp_in 5 (mL M48 r21)) (bv (wI M48 r21 (5 : Int32).toNatClampNeg (mI M48 r55 p2.toNatClampNeg)) (fun M59 => grd (vp_in 6 (mL M59 r21)) (bv (wI M59 r21 (6 : Int32).toNatClampNeg (mI M59 a0 6)) (fun M65 => Option.bind (mR M65 a0 0) (fun r70 => grd (okO M65 10 r70) (grd (vp_in 7 (mL M65 r21)) (bv (wI M65 r21 (7 : Int32).toNatClampNeg (mI M65 r70 12)) (fun M73 => Option.bind (mR M73 a0 2) (fun r78 => Option.bind (f_X8_askLaw M73 a0) (fun q79 => grd (okO q79.1 14 r78) (grd (vp_in x7 (mL q79.1 r78)) (bv (wI q79.1 r78 x7.toNatClampNeg (((sl (mI M73 a0 4) 7) + q79.2) + 1)) (fun M87 => j11 M87)))))))))))))))))))))))))))))))))))))) else (some (M, (-1)))))))) (fun j1 => bv (fun (s93 : Unit) => grd (okO M 8 a0) (Option.bind (mR M a0 0) (fun r97 => grd (okO M 10 r97) (Option.bind (mR M r97 1) (fun r99 => grd (okO M 14 r99) (grd (vp_in p2 (mL M r99)) (if (mI M r99 p2.toNatClampNeg) = 0 then (some (M, (-1))) else (j1 ())))))))) (fun j92 => if p1 = 1 then (j92 ()) else (if p1 = 3 then (j92 ()) else (j1 ()))))
abbrev Y_X8_weightOf : Sta := (RX8, "weightOf", cX8_weightOf, 8, (some .int), 4)
set_option maxRecDepth 100000 in
set_option maxHeartbeats 8000000 in
theorem t_X8_weightOf {l : Launch} {G : Gh} {M : Mem} {a0 : Nat} {p1 : Int32} {p2 : Int32} {p3 : Int32} {p4 : Int32} {p5 : Int32} {q : Mem × Int32} (h : f_X8_weightOf M a0 p1 p2 p3 p4 p5 = some q) : Ctr l G yX8_weightOf Y_X8_weightOf M [.ref (gh G + a0), .int p1, .int p2, .int p3, .int p4, .int p5] q.1 (some (.int q.2)) := by
  refine Ctr.of (Y := Y_X8_weightOf) (L := [some (.ref (gh G + a0)), some (.int p1), some (.int p2), some (.int p3), some (.int p4), some (.int p5), none, none]) (t := Option.bind (f_X8_weightOf M a0 p1 p2 p3 p4 p5) (fun q => some (q.1, some (.int q.2)))) (by decide) rfl rfl (nle rfl) (Lof_in 2 _ rfl) (fun X hG hl => ?_) (by rw [h]; rfl)
  subst hG
  subst hl
  unfold f_X8_weightOf
  refine s_iload_n (pc := 0) 1 dX8_weightOf_0 rfl rfl ?_
  refine s_iconst (pc := 1) 1 dX8_weightOf_1 kc_1 ?_
  refine s_join M (fun s2 : Unit => M) 24 (fun s2 : Unit => [some (.ref (gh (xG X) + a0)), some (.int p1), some (.int p2), some (.int p3), some (.int p4), some (.int p5), none, none]) (fun s2 : Unit => []) (fun s2 hs3 => ?_) (fun j1 hj4 => ?_)
  · show S0 X _ M 24 [some (.ref (gh (xG X) + a0)), some (.int p1), some (.int p2), some (.int p3), some (.int p4), some (.int p5), none, none] [] _
    refine s_aload_n (pc := 24) 0 dX8_weightOf_24 rfl rfl ?_
    refine s_grd (fun o5 => ?_)
    refine s_geto (pc := 25) F_8 3 rfl o5 dX8_weightOf_25 kf_X8_30 ?_
    refine s_rv ?_ (fun r6 => ?_)
    · refine s_nonnullF (pc := 28) dX8_weightOf_28 ?_
      refine s_iconst (pc := 31) 1 dX8_weightOf_31 kc_1 ?_
      exact s_iret rfl dX8_weightOf_32
    · refine s_nonnullT (pc := 28) 33 dX8_weightOf_28 rfl ?_
      refine s_iload_n (pc := 33) 1 dX8_weightOf_33 rfl rfl ?_
      refine s_bipush (pc := 34) 6 dX8_weightOf_34 kb_6 ?_
      refine s_imul (pc := 36) dX8_weightOf_36 ?_
      refine s_iload_n (pc := 37) 2 dX8_weightOf_37 rfl rfl ?_
      refine s_iadd (pc := 38) dX8_weightOf_38 ?_
      refine s_bipush (pc := 39) 6 dX8_weightOf_39 kb_6 ?_
      refine s_imul (pc := 41) dX8_weightOf_41 ?_
      refine s_iload_n (pc := 42) 3 dX8_weightOf_42 rfl rfl ?_
      refine s_iadd (pc := 43) dX8_weightOf_43 ?_
      refine s_bipush (pc := 44) 6 dX8_weightOf_44 kb_6 ?_
      refine s_imul (pc := 46) dX8_weightOf_46 ?_
      refine s_iload (pc := 47) dX8_weightOf_47 rfl ?_
      refine s_iadd (pc := 49) dX8_weightOf_49 ?_
      refine s_bipush (pc := 50) 6 dX8_weightOf_50 kb_6 ?_
      refine s_imul (pc := 52) dX8_weightOf_52 ?_
      refine s_iload (pc := 53) dX8_weightOf_53 rfl ?_
      refine s_iadd (pc := 55) dX8_weightOf_55 ?_
      refine s_istore (pc := 56) dX8_weightOf_56 (nlt rfl) rfl (L' := [some (.ref (gh (xG X) + a0)), some (.int p1), some (.int p2), some (.int p3), some (.int p4), some (.int p5), some (.int ((((((((p1 * 6) + p2) * 6) + p3) * 6) + p4) * 6) + p5)), none]) rfl ?_
      refine s_bv (fun x7 : Int32 => [some (.ref (gh (xG X) + a0)), some (.int p1), some (.int p2), some (.int p3), some (.int p4), some (.int p5), some (.int x7), none]) (fun x7 => ?_) rfl
      refine s_iload (pc := 58) dX8_weightOf_58 rfl ?_
      refine s_iflt (pc := 60) 71 dX8_weightOf_60 rfl ?_ ?_
      · refine s_iconst (pc := 71) (-1) dX8_weightOf_71 kc_m1 ?_
        exact s_iret rfl dX8_weightOf_72
      · refine s_iload (pc := 63) dX8_weightOf_63 rfl ?_
        refine s_sipush (pc := 65) 6480 dX8_weightOf_65 ks_6480 ?_
        refine s_iclt (pc := 68) 73 dX8_weightOf_68 rfl ?_ ?_
        · refine s_aload_n (pc := 73) 0 dX8_weightOf_73 rfl rfl ?_
          refine s_geto (pc := 74) F_8 2 rfl o5 dX8_weightOf_74 kf_X8_18 ?_
          refine s_rvB (fun r8 => ?_)
          refine s_iload (pc := 77) dX8_weightOf_77 rfl ?_
          refine s_grd (fun o9 => ?_)
          refine s_grd (fun i10 => ?_)
          refine s_iald (pc := 79) o9 i10 dX8_weightOf_79 ?_
          refine s_bipush (pc := 80) 7 dX8_weightOf_80 kb_7 ?_
          refine s_ishr (pc := 82) dX8_weightOf_82 ?_
          refine s_aload_n (pc := 83) 0 dX8_weightOf_83 rfl rfl ?_
          refine s_geti (pc := 84) F_8 4 rfl o5 dX8_weightOf_84 kf_X8_50 ?_
          refine s_join M (fun s12 : Mem => s12) 181 (fun s12 : Mem => [some (.ref (gh (xG X) + a0)), none, none, none, none, none, some (.int x7), none]) (fun s12 : Mem => []) (fun s12 hs13 => ?_) (fun j11 hj14 => ?_)
          · show S0 X _ s12 181 [some (.ref (gh (xG X) + a0)), none, none, none, none, none, some (.int x7), none] [] _
            have o15 := hs13.ok o5
            refine s_aload_n (pc := 181) 0 dX8_weightOf_181 rfl rfl ?_
            refine s_geto (pc := 182) F_8 2 rfl o15 dX8_weightOf_182 kf_X8_18 ?_
            refine s_rvB (fun r16 => ?_)
            refine s_iload (pc := 185) dX8_weightOf_185 rfl ?_
            refine s_grd (fun o17 => ?_)
            refine s_grd (fun i18 => ?_)
            refine s_iald (pc := 187) o17 i18 dX8_weightOf_187 ?_
            refine s_bipush (pc := 188) 127 dX8_weightOf_188 kb_127 ?_
            refine s_iand (pc := 190) dX8_weightOf_190 ?_
            refine s_iconst (pc := 191) 1 dX8_weightOf_191 kc_1 ?_
            refine s_isub (pc := 192) dX8_weightOf_192 ?_
            exact s_iret rfl dX8_weightOf_193
          · refine s_iceq (pc := 87) 181 dX8_weightOf_87 rfl ?_ ?_
            · exact s_drop (hj14 M Le.rf) (And.intro rfl (And.intro rfl trivial))
            · refine s_aload_n (pc := 90) 0 dX8_weightOf_90 rfl rfl ?_
              refine s_geto (pc := 91) F_8 1 rfl o5 dX8_weightOf_91 kf_X8_12 ?_
              refine s_rvB (fun r19 => ?_)
              refine s_grd (fun o20 => ?_)
              refine s_geto (pc := 94) F_3 0 rfl o20 dX8_weightOf_94 kf_X8_56 ?_
              refine s_rvB (fun r21 => ?_)
              refine s_astore (pc := 97) dX8_weightOf_97 (nlt rfl) rfl (L' := [some (.ref (gh (xG X) + a0)), some (.int p1), some (.int p2), some (.int p3), some (.int p4), some (.int p5), some (.int x7), some (.ref (gh (xG X) + r21))]) rfl ?_
              refine s_aload (pc := 99) dX8_weightOf_99 rfl ?_
              refine s_iconst (pc := 101) 0 dX8_weightOf_101 kc_0 ?_
              refine s_iload_n (pc := 102) 1 dX8_weightOf_102 rfl rfl ?_
              refine s_grd (fun o22 => ?_)
              refine s_grd (fun i23 => ?_)
              refine s_iast (pc := 103) o22 i23 dX8_weightOf_103 (fun M24 hM25 => ?_)
              have h26 := le_wI hM25
              have o27 := h26.ok o5
              have o28 := h26.ok o22
              refine s_aload (pc := 104) dX8_weightOf_104 rfl ?_
              refine s_iconst (pc := 106) 1 dX8_weightOf_106 kc_1 ?_
              refine s_iload_n (pc := 107) 2 dX8_weightOf_107 rfl rfl ?_
              refine s_grd (fun i29 => ?_)
              refine s_iast (pc := 108) o28 i29 dX8_weightOf_108 (fun M30 hM31 => ?_)
              have h32 := le_wI hM31
              have o33 := h32.ok o27
              have o34 := h32.ok o28
              refine s_aload (pc := 109) dX8_weightOf_109 rfl ?_
              refine s_iconst (pc := 111) 2 dX8_weightOf_111 kc_2 ?_
              refine s_iload_n (pc := 112) 3 dX8_weightOf_112 rfl rfl ?_
              refine s_grd (fun i35 => ?_)
              refine s_iast (pc := 113) o34 i35 dX8_weightOf_113 (fun M36 hM37 => ?_)
              have h38 := le_wI hM37
              have o39 := h38.ok o33
              have o40 := h38.ok o34
              refine s_aload (pc := 114) dX8_weightOf_114 rfl ?_
              refine s_iconst (pc := 116) 3 dX8_weightOf_116 kc_3 ?_
              refine s_iload (pc := 117) dX8_weightOf_117 rfl ?_
              refine s_grd (fun i41 => ?_)
              refine s_iast (pc := 119) o40 i41 dX8_weightOf_119 (fun M42 hM43 => ?_)
              have h44 := le_wI hM43
              have o45 := h44.ok o39
              have o46 := h44.ok o40
              refine s_aload (pc := 120) dX8_weightOf_120 rfl ?_
              refine s_iconst (pc := 122) 4 dX8_weightOf_122 kc_4 ?_
              refine s_iload (pc := 123) dX8_weightOf_123 rfl ?_
              refine s_grd (fun i47 => ?_)
              refine s_iast (pc := 125) o46 i47 dX8_weightOf_125 (fun M48 hM49 => ?_)
              have h50 := le_wI hM49
              have o51 := h50.ok o45
              have o52 := h50.ok o46
              refine s_aload (pc := 126) dX8_weightOf_126 rfl ?_
              refine s_iconst (pc := 128) 5 dX8_weightOf_128 kc_5 ?_
              refine s_aload_n (pc := 129) 0 dX8_weightOf_129 rfl rfl ?_
              refine s_geto (pc := 130) F_8 0 rfl o51 dX8_weightOf_130 kf_X8_22 ?_
              refine s_rvB (fun r53 => ?_)
              refine s_grd (fun o54 => ?_)
              refine s_getoN (pc := 133) F_10 0 rfl o54 dX8_weightOf_133 (List.mem_of_getElem? (i := 0) rfl) ?_
              refine s_rvB (fun r55 => ?_)
              refine s_iload_n (pc := 136) 2 dX8_weightOf_136 rfl rfl ?_
              refine s_grd (fun o56 => ?_)
              refine s_grd (fun i57 => ?_)
              refine s_iald (pc := 137) o56 i57 dX8_weightOf_137 ?_
              refine s_grd (fun i58 => ?_)
              refine s_iast (pc := 138) o52 i58 dX8_weightOf_138 (fun M59 hM60 => ?_)
              have h61 := le_wI hM60
              have o62 := h61.ok o51
              have o63 := h61.ok o52
              refine s_aload (pc := 139) dX8_weightOf_139 rfl ?_
              refine s_bipush (pc := 141) 6 dX8_weightOf_141 kb_6 ?_
              refine s_aload_n (pc := 143) 0 dX8_weightOf_143 rfl rfl ?_
              refine s_geti (pc := 144) F_8 6 rfl o62 dX8_weightOf_144 kf_X8_26 ?_
              refine s_grd (fun i64 => ?_)
              refine s_iast (pc := 147) o63 i64 dX8_weightOf_147 (fun M65 hM66 => ?_)
              have h67 := le_wI hM66
              have o68 := h67.ok o62
              have o69 := h67.ok o63
              refine s_aload (pc := 148) dX8_weightOf_148 rfl ?_
              refine s_bipush (pc := 150) 7 dX8_weightOf_150 kb_7 ?_
              refine s_aload_n (pc := 152) 0 dX8_weightOf_152 rfl rfl ?_
              refine s_geto (pc := 153) F_8 0 rfl o68 dX8_weightOf_153 kf_X8_22 ?_
              refine s_rvB (fun r70 => ?_)
              refine s_grd (fun o71 => ?_)
              refine s_getiN (pc := 156) F_10 12 rfl o71 dX8_weightOf_156 (List.mem_of_getElem? (i := 15) rfl) ?_
              refine s_grd (fun i72 => ?_)
              refine s_iast (pc := 159) o69 i72 dX8_weightOf_159 (fun M73 hM74 => ?_)
              have h75 := le_wI hM74
              have o76 := h75.ok o68
              have o77 := h75.ok o69
              refine s_aload_n (pc := 160) 0 dX8_weightOf_160 rfl rfl ?_
              refine s_geto (pc := 161) F_8 2 rfl o76 dX8_weightOf_161 kf_X8_18 ?_
              refine s_rvB (fun r78 => ?_)
              refine s_iload (pc := 164) dX8_weightOf_164 rfl ?_
              refine s_aload_n (pc := 166) 0 dX8_weightOf_166 rfl rfl ?_
              refine s_geti (pc := 167) F_8 4 rfl o76 dX8_weightOf_167 kf_X8_50 ?_
              refine s_bipush (pc := 170) 7 dX8_weightOf_170 kb_7 ?_
              refine s_ishl (pc := 172) dX8_weightOf_172 ?_
              refine s_aload_n (pc := 173) 0 dX8_weightOf_173 rfl rfl ?_
              refine s_bind (fun q79 hq80 => ?_)
              have hC81 := t_X8_askLaw (l := xl X) (G := xG X) hq80
              refine s_callV (pc := 174) (As := []) (st := [.int (sl (mI M73 a0 4) 7), .int x7, .ref (gh (xG X) + r78)]) (nlt rfl) (q := (RX8, TX8, 7)) rfl rfl o76 cl_X8_askLaw wi_X8_askLaw wl_X8_askLaw km_X8_65 rfl rfl (nle rfl) (nle rfl) (nle rfl) dX8_weightOf_174 hC81 ?_
              have h82 := hC81.1 X
              have o83 := h82.ok o76
              have o84 := h82.ok o77
              show S0 X _ q79.1 177 [some (.ref (gh (xG X) + a0)), some (.int p1), some (.int p2), some (.int p3), some (.int p4), some (.int p5), some (.int x7), some (.ref (gh (xG X) + r21))] [.int q79.2, .int (sl (mI M73 a0 4) 7), .int x7, .ref (gh (xG X) + r78)] _
              refine s_iadd (pc := 177) dX8_weightOf_177 ?_
              refine s_iconst (pc := 178) 1 dX8_weightOf_178 kc_1 ?_
              refine s_iadd (pc := 179) dX8_weightOf_179 ?_
              refine s_grd (fun o85 => ?_)
              refine s_grd (fun i86 => ?_)
              refine s_iast (pc := 180) o85 i86 dX8_weightOf_180 (fun M87 hM88 => ?_)
              have h89 := le_wI hM88
              have o90 := h89.ok o83
              have o91 := h89.ok o84
              exact s_drop (hj14 M87 (h26.tr (h32.tr (h38.tr (h44.tr (h50.tr (h61.tr (h67.tr (h75.tr (h82.tr h89)))))))))) (And.intro rfl (And.intro rfl trivial))
        · refine s_iconst (pc := 71) (-1) dX8_weightOf_71 kc_m1 ?_
          exact s_iret rfl dX8_weightOf_72
  · refine s_join M (fun s93 : Unit => M) 10 (fun s93 : Unit => [some (.ref (gh (xG X) + a0)), some (.int p1), some (.int p2), some (.int p3), some (.int p4), some (.int p5), none, none]) (fun s93 : Unit => []) (fun s93 hs94 => ?_) (fun j92 hj95 => ?_)
    · show S0 X _ M 10 [some (.ref (gh (xG X) + a0)), some (.int p1), some (.int p2), some (.int p3), some (.int p4), some (.int p5), none, none] [] _
      refine s_aload_n (pc := 10) 0 dX8_weightOf_10 rfl rfl ?_
      refine s_grd (fun o96 => ?_)
      refine s_geto (pc := 11) F_8 0 rfl o96 dX8_weightOf_11 kf_X8_22 ?_
      refine s_rvB (fun r97 => ?_)
      refine s_grd (fun o98 => ?_)
      refine s_getoN (pc := 14) F_10 1 rfl o98 dX8_weightOf_14 (List.mem_of_getElem? (i := 1) rfl) ?_
      refine s_rvB (fun r99 => ?_)
      refine s_iload_n (pc := 17) 2 dX8_weightOf_17 rfl rfl ?_
      refine s_grd (fun o100 => ?_)
      refine s_grd (fun i101 => ?_)
      refine s_iald (pc := 18) o100 i101 dX8_weightOf_18 ?_
      refine s_ifne (pc := 19) 24 dX8_weightOf_19 rfl ?_ ?_
      · exact s_drop (hj4 () Le.rf) (And.intro rfl (And.intro rfl (And.intro rfl (And.intro rfl (And.intro rfl (And.intro rfl trivial))))))
      · refine s_iconst (pc := 22) (-1) dX8_weightOf_22 kc_m1 ?_
        exact s_iret rfl dX8_weightOf_23
    · refine s_iceq (pc := 2) 10 dX8_weightOf_2 rfl ?_ ?_
      · exact s_drop (hj95 () Le.rf) (And.intro rfl (And.intro rfl (And.intro rfl (And.intro rfl (And.intro rfl (And.intro rfl trivial))))))
      · refine s_iload_n (pc := 5) 1 dX8_weightOf_5 rfl rfl ?_
        refine s_iconst (pc := 6) 3 dX8_weightOf_6 kc_3 ?_
        refine s_icne (pc := 7) 24 dX8_weightOf_7 rfl ?_ ?_
        · exact s_drop (hj4 () Le.rf) (And.intro rfl (And.intro rfl (And.intro rfl (And.intro rfl (And.intro rfl (And.intro rfl trivial))))))
        · exact s_drop (hj95 () Le.rf) (And.intro rfl (And.intro rfl (And.intro rfl (And.intro rfl (And.intro rfl (And.intro rfl trivial))))))
set_option maxRecDepth 100000 in
set_option maxHeartbeats 8000000 in
noncomputable def f_X1_makes (M : Mem) (a0 : Nat) (p1 : Int32) (p2 : Int32) (p3 : Int32) : Option (Mem × Int32) :=
  bv (fun (s2 : Int32) => if s2 = (-1) then (some (M, (-1))) else (bv (fun (s6 : Int32) => grd (okO M 1 a0) (Option.bind (mR M a0 1) (fun r10 => Option.bind (mR M a0 2) (fun r11 => grd (okO M 6 r11) (Option.bind (mR M a0 2) (fun r13 => grd (okO M 6 r13) (Option.bind (mR M r13 1) (fun r15 => grd (okO M 14 r15) (grd (vp_in s6 (mL M r15)) (grd (okO M 8 r10) (Option.bind (f_X8_weightOf M r10 p1 s6 p2 (mI M r11 2) (mI M r15 s6.toNatClampNeg)) (fun q19 => bv (wI q19.1 a0 7 q19.2) (fun M24 => if (mI M24 a0 7) = (-1) then (some (M24, (-1))) else (some (M24, s2))))))))))))))) (fun j5 => if p1 = 1 then (j5 p3) else (grd (okO M 1 a0) (Option.bind (mR M a0 2) (fun r29 => grd (okO M 6 r29) (Option.bind (mR M r29 0) (fun r31 => grd (okO M 14 r31) (grd (vp_in p2 (mL M r31)) (j5 (mI M r31 p2.toNatClampNeg))))))))))) (fun j1 => swO p1 (swC 0 [(32, grd (okO M 1 a0) (Option.bind (mR M a0 2) (fun r35 => grd (okO M 6 r35) (Option.bind (f_X6_without M r35 p2) (fun q37 => j1 q37))))), (45, grd (okO M 1 a0) (Option.bind (mR M a0 2) (fun r41 => grd (okO M 6 r41) (Option.bind (f_X6_with M r41 p2 p3) (fun q43 => j1 q43))))), (59, grd (okO M 1 a0) (Option.bind (mR M a0 2) (fun r47 => grd (okO M 6 r47) (Option.bind (f_X6_swapped M r47 p2) (fun q49 => j1 q49))))), (72, grd (okO M 1 a0) (Option.bind (mR M a0 2) (fun r53 => grd (okO M 6 r53) (Option.bind (f_X6_doubled M r53 p2) (fun q55 => j1 q55)))))]) (grd (okO M 1 a0) (Option.bind (mR M a0 2) (fun r59 => grd (okO M 6 r59) (Option.bind (f_X6_hasPlace M r59 p2) (fun q61 => bv (fun (s65 : Int32) => j1 s65) (fun j64 => if q61 = 0 then (j64 (-1)) else (Option.bind (mR M a0 2) (fun r68 => Option.bind (mR M a0 0) (fun r69 => grd (okO M 10 r69) (Option.bind (mR M r69 2) (fun r71 => Option.bind (mR M a0 2) (fun r72 => grd (okO M 6 r72) (Option.bind (mR M r72 0) (fun r74 => grd (okO M 14 r74) (grd (vp_in p2 (mL M r74)) (grd (okO M 14 r71) (grd (vp_in (mI M r74 p2.toNatClampNeg) (mL M r71)) (grd (okO M 6 r68) (Option.bind (f_X6_replaced M r68 p2 (mI M r71 (mI M r74 p2.toNatClampNeg).toNatClampNeg)) (fun q80 => j64 q80)))))))))))))))))))))
abbrev Y_X1_makes : Sta := (RX1, "makes", cX1_makes, 6, (some .int), 5)
set_option maxRecDepth 100000 in
set_option maxHeartbeats 8000000 in
theorem t_X1_makes {l : Launch} {G : Gh} {M : Mem} {a0 : Nat} {p1 : Int32} {p2 : Int32} {p3 : Int32} {q : Mem × Int32} (h : f_X1_makes M a0 p1 p2 p3 = some q) : Ctr l G yX1_makes Y_X1_makes M [.ref (gh G + a0), .int p1, .int p2, .int p3] q.1 (some (.int q.2)) := by
  refine Ctr.of (Y := Y_X1_makes) (L := [some (.ref (gh G + a0)), some (.int p1), some (.int p2), some (.int p3), none, none]) (t := Option.bind (f_X1_makes M a0 p1 p2 p3) (fun q => some (q.1, some (.int q.2)))) (by decide) rfl rfl (nle rfl) (Lof_in 2 _ rfl) (fun X hG hl => ?_) (by rw [h]; rfl)
  subst hG
  subst hl
  unfold f_X1_makes
  refine s_iload_n (pc := 0) 1 dX1_makes_0 rfl rfl ?_
  refine s_join M (fun s2 : Int32 => M) 127 (fun s2 : Int32 => [some (.ref (gh (xG X) + a0)), some (.int p1), some (.int p2), some (.int p3), some (.int s2), none]) (fun s2 : Int32 => []) (fun s2 hs3 => ?_) (fun j1 hj4 => ?_)
  · show S0 X _ M 127 [some (.ref (gh (xG X) + a0)), some (.int p1), some (.int p2), some (.int p3), some (.int s2), none] [] _
    refine s_iload (pc := 127) dX1_makes_127 rfl ?_
    refine s_iconst (pc := 129) (-1) dX1_makes_129 kc_m1 ?_
    refine s_icne (pc := 130) 135 dX1_makes_130 rfl ?_ ?_
    · refine s_iload_n (pc := 135) 1 dX1_makes_135 rfl rfl ?_
      refine s_iconst (pc := 136) 1 dX1_makes_136 kc_1 ?_
      refine s_join M (fun s6 : Int32 => M) 153 (fun s6 : Int32 => [some (.ref (gh (xG X) + a0)), some (.int p1), some (.int p2), none, some (.int s2), none]) (fun s6 : Int32 => [.int s6]) (fun s6 hs7 => ?_) (fun j5 hj8 => ?_)
      · show S0 X _ M 153 [some (.ref (gh (xG X) + a0)), some (.int p1), some (.int p2), none, some (.int s2), none] [.int s6] _
        refine s_istore (pc := 153) dX1_makes_153 (nlt rfl) rfl (L' := [some (.ref (gh (xG X) + a0)), some (.int p1), some (.int p2), none, some (.int s2), some (.int s6)]) rfl ?_
        refine s_aload_n (pc := 155) 0 dX1_makes_155 rfl rfl ?_
        refine s_aload_n (pc := 156) 0 dX1_makes_156 rfl rfl ?_
        refine s_grd (fun o9 => ?_)
        refine s_geto (pc := 157) F_1 1 rfl o9 dX1_makes_157 kf_X1_29 ?_
        refine s_rvB (fun r10 => ?_)
        refine s_iload_n (pc := 160) 1 dX1_makes_160 rfl rfl ?_
        refine s_iload (pc := 161) dX1_makes_161 rfl ?_
        refine s_iload_n (pc := 163) 2 dX1_makes_163 rfl rfl ?_
        refine s_aload_n (pc := 164) 0 dX1_makes_164 rfl rfl ?_
        refine s_geto (pc := 165) F_1 2 rfl o9 dX1_makes_165 kf_X1_12 ?_
        refine s_rvB (fun r11 => ?_)
        refine s_grd (fun o12 => ?_)
        refine s_geti (pc := 168) F_6 2 rfl o12 dX1_makes_168 kf_X1_66 ?_
        refine s_aload_n (pc := 171) 0 dX1_makes_171 rfl rfl ?_
        refine s_geto (pc := 172) F_1 2 rfl o9 dX1_makes_172 kf_X1_12 ?_
        refine s_rvB (fun r13 => ?_)
        refine s_grd (fun o14 => ?_)
        refine s_geto (pc := 175) F_6 1 rfl o14 dX1_makes_175 kf_X1_70 ?_
        refine s_rvB (fun r15 => ?_)
        refine s_iload (pc := 178) dX1_makes_178 rfl ?_
        refine s_grd (fun o16 => ?_)
        refine s_grd (fun i17 => ?_)
        refine s_iald (pc := 180) o16 i17 dX1_makes_180 ?_
        refine s_grd (fun o18 => ?_)
        refine s_bind (fun q19 hq20 => ?_)
        have hC21 := t_X8_weightOf (l := xl X) (G := xG X) hq20
        refine s_callV (pc := 181) (As := [.int p1, .int s6, .int p2, .int (mI M r11 2), .int (mI M r15 s6.toNatClampNeg)]) (st := [.ref (gh (xG X) + a0)]) (nlt rfl) (q := (RX8, TX8, 7)) rfl rfl o18 cl_X8_weightOf wi_X8_weightOf wl_X8_weightOf km_X1_73 rfl rfl (nle rfl) (nle rfl) (nle rfl) dX1_makes_181 hC21 ?_
        have h22 := hC21.1 X
        have o23 := h22.ok o9
        show S0 X _ q19.1 184 [some (.ref (gh (xG X) + a0)), some (.int p1), some (.int p2), none, some (.int s2), some (.int s6)] [.int q19.2, .ref (gh (xG X) + a0)] _
        refine s_puti (pc := 184) F_1 7 rfl o23 rfl rfl rfl dX1_makes_184 kf_X1_79 (fun M24 hM25 => ?_)
        have h26 := le_wI hM25
        have o27 := h26.ok o23
        refine s_aload_n (pc := 187) 0 dX1_makes_187 rfl rfl ?_
        refine s_geti (pc := 188) F_1 7 rfl o27 dX1_makes_188 kf_X1_79 ?_
        refine s_iconst (pc := 191) (-1) dX1_makes_191 kc_m1 ?_
        refine s_icne (pc := 192) 199 dX1_makes_192 rfl ?_ ?_
        · refine s_iload (pc := 199) dX1_makes_199 rfl ?_
          exact s_iret rfl dX1_makes_201
        · refine s_iconst (pc := 195) (-1) dX1_makes_195 kc_m1 ?_
          refine s_goto (pc := 196) 201 dX1_makes_196 rfl ?_
          exact s_iret rfl dX1_makes_201
      · refine s_icne (pc := 137) 144 dX1_makes_137 rfl ?_ ?_
        · refine s_aload_n (pc := 144) 0 dX1_makes_144 rfl rfl ?_
          refine s_grd (fun o28 => ?_)
          refine s_geto (pc := 145) F_1 2 rfl o28 dX1_makes_145 kf_X1_12 ?_
          refine s_rvB (fun r29 => ?_)
          refine s_grd (fun o30 => ?_)
          refine s_geto (pc := 148) F_6 0 rfl o30 dX1_makes_148 kf_X1_60 ?_
          refine s_rvB (fun r31 => ?_)
          refine s_iload_n (pc := 151) 2 dX1_makes_151 rfl rfl ?_
          refine s_grd (fun o32 => ?_)
          refine s_grd (fun i33 => ?_)
          refine s_iald (pc := 152) o32 i33 dX1_makes_152 ?_
          exact s_drop (hj8 (mI M r31 p2.toNatClampNeg) Le.rf) (And.intro rfl (And.intro rfl (And.intro rfl (And.intro rfl trivial))))
        · refine s_iload_n (pc := 140) 3 dX1_makes_140 rfl rfl ?_
          refine s_goto (pc := 141) 153 dX1_makes_141 rfl ?_
          exact s_drop (hj8 p3 Le.rf) (And.intro rfl (And.intro rfl (And.intro rfl (And.intro rfl trivial))))
    · refine s_iconst (pc := 133) (-1) dX1_makes_133 kc_m1 ?_
      exact s_iret rfl dX1_makes_134
  · refine s_tsw (pc := 1) _ 85 dX1_makes_1 rfl rfl (And.intro (by decide) (And.intro (by simp only [List.length_cons, List.length_nil]; decide) rfl)) ?_ ?_
    · refine (And.intro ?_ (And.intro ?_ (And.intro ?_ (And.intro ?_ trivial))))
      · dsimp only
        refine s_aload_n (pc := 32) 0 dX1_makes_32 rfl rfl ?_
        refine s_grd (fun o34 => ?_)
        refine s_geto (pc := 33) F_1 2 rfl o34 dX1_makes_33 kf_X1_12 ?_
        refine s_rvB (fun r35 => ?_)
        refine s_iload_n (pc := 36) 2 dX1_makes_36 rfl rfl ?_
        refine s_grd (fun o36 => ?_)
        refine s_bind (fun q37 hq38 => ?_)
        have hC39 := t_X6_without (l := xl X) (G := xG X) hq38
        refine s_callV (pc := 37) (As := [.int p2]) (st := []) (nlt rfl) (q := (RX6, TX6, 4)) rfl rfl o36 cl_X6_without wi_X6_without wl_X6_without km_X1_37 rfl rfl (nle rfl) (nle rfl) (nle rfl) dX1_makes_37 hC39 ?_
        show S0 X _ M 40 [some (.ref (gh (xG X) + a0)), some (.int p1), some (.int p2), some (.int p3), none, none] [.int q37] _
        refine s_istore (pc := 40) dX1_makes_40 (nlt rfl) rfl (L' := [some (.ref (gh (xG X) + a0)), some (.int p1), some (.int p2), some (.int p3), some (.int q37), none]) rfl ?_
        refine s_goto (pc := 42) 127 dX1_makes_42 rfl ?_
        exact s_drop (hj4 q37 Le.rf) (And.intro rfl (And.intro rfl (And.intro rfl (And.intro rfl (And.intro rfl trivial)))))
      · dsimp only
        refine s_aload_n (pc := 45) 0 dX1_makes_45 rfl rfl ?_
        refine s_grd (fun o40 => ?_)
        refine s_geto (pc := 46) F_1 2 rfl o40 dX1_makes_46 kf_X1_12 ?_
        refine s_rvB (fun r41 => ?_)
        refine s_iload_n (pc := 49) 2 dX1_makes_49 rfl rfl ?_
        refine s_iload_n (pc := 50) 3 dX1_makes_50 rfl rfl ?_
        refine s_grd (fun o42 => ?_)
        refine s_bind (fun q43 hq44 => ?_)
        have hC45 := t_X6_with (l := xl X) (G := xG X) hq44
        refine s_callV (pc := 51) (As := [.int p2, .int p3]) (st := []) (nlt rfl) (q := (RX6, TX6, 4)) rfl rfl o42 cl_X6_with wi_X6_with wl_X6_with km_X1_41 rfl rfl (nle rfl) (nle rfl) (nle rfl) dX1_makes_51 hC45 ?_
        show S0 X _ M 54 [some (.ref (gh (xG X) + a0)), some (.int p1), some (.int p2), some (.int p3), none, none] [.int q43] _
        refine s_istore (pc := 54) dX1_makes_54 (nlt rfl) rfl (L' := [some (.ref (gh (xG X) + a0)), some (.int p1), some (.int p2), some (.int p3), some (.int q43), none]) rfl ?_
        refine s_goto (pc := 56) 127 dX1_makes_56 rfl ?_
        exact s_drop (hj4 q43 Le.rf) (And.intro rfl (And.intro rfl (And.intro rfl (And.intro rfl (And.intro rfl trivial)))))
      · dsimp only
        refine s_aload_n (pc := 59) 0 dX1_makes_59 rfl rfl ?_
        refine s_grd (fun o46 => ?_)
        refine s_geto (pc := 60) F_1 2 rfl o46 dX1_makes_60 kf_X1_12 ?_
        refine s_rvB (fun r47 => ?_)
        refine s_iload_n (pc := 63) 2 dX1_makes_63 rfl rfl ?_
        refine s_grd (fun o48 => ?_)
        refine s_bind (fun q49 hq50 => ?_)
        have hC51 := t_X6_swapped (l := xl X) (G := xG X) hq50
        refine s_callV (pc := 64) (As := [.int p2]) (st := []) (nlt rfl) (q := (RX6, TX6, 4)) rfl rfl o48 cl_X6_swapped wi_X6_swapped wl_X6_swapped km_X1_45 rfl rfl (nle rfl) (nle rfl) (nle rfl) dX1_makes_64 hC51 ?_
        show S0 X _ M 67 [some (.ref (gh (xG X) + a0)), some (.int p1), some (.int p2), some (.int p3), none, none] [.int q49] _
        refine s_istore (pc := 67) dX1_makes_67 (nlt rfl) rfl (L' := [some (.ref (gh (xG X) + a0)), some (.int p1), some (.int p2), some (.int p3), some (.int q49), none]) rfl ?_
        refine s_goto (pc := 69) 127 dX1_makes_69 rfl ?_
        exact s_drop (hj4 q49 Le.rf) (And.intro rfl (And.intro rfl (And.intro rfl (And.intro rfl (And.intro rfl trivial)))))
      · dsimp only
        refine s_aload_n (pc := 72) 0 dX1_makes_72 rfl rfl ?_
        refine s_grd (fun o52 => ?_)
        refine s_geto (pc := 73) F_1 2 rfl o52 dX1_makes_73 kf_X1_12 ?_
        refine s_rvB (fun r53 => ?_)
        refine s_iload_n (pc := 76) 2 dX1_makes_76 rfl rfl ?_
        refine s_grd (fun o54 => ?_)
        refine s_bind (fun q55 hq56 => ?_)
        have hC57 := t_X6_doubled (l := xl X) (G := xG X) hq56
        refine s_callV (pc := 77) (As := [.int p2]) (st := []) (nlt rfl) (q := (RX6, TX6, 4)) rfl rfl o54 cl_X6_doubled wi_X6_doubled wl_X6_doubled km_X1_48 rfl rfl (nle rfl) (nle rfl) (nle rfl) dX1_makes_77 hC57 ?_
        show S0 X _ M 80 [some (.ref (gh (xG X) + a0)), some (.int p1), some (.int p2), some (.int p3), none, none] [.int q55] _
        refine s_istore (pc := 80) dX1_makes_80 (nlt rfl) rfl (L' := [some (.ref (gh (xG X) + a0)), some (.int p1), some (.int p2), some (.int p3), some (.int q55), none]) rfl ?_
        refine s_goto (pc := 82) 127 dX1_makes_82 rfl ?_
        exact s_drop (hj4 q55 Le.rf) (And.intro rfl (And.intro rfl (And.intro rfl (And.intro rfl (And.intro rfl trivial)))))
    · refine s_aload_n (pc := 85) 0 dX1_makes_85 rfl rfl ?_
      refine s_grd (fun o58 => ?_)
      refine s_geto (pc := 86) F_1 2 rfl o58 dX1_makes_86 kf_X1_12 ?_
      refine s_rvB (fun r59 => ?_)
      refine s_iload_n (pc := 89) 2 dX1_makes_89 rfl rfl ?_
      refine s_grd (fun o60 => ?_)
      refine s_bind (fun q61 hq62 => ?_)
      have hC63 := t_X6_hasPlace (l := xl X) (G := xG X) hq62
      refine s_callV (pc := 90) (As := [.int p2]) (st := []) (nlt rfl) (q := (RX6, TX6, 4)) rfl rfl o60 cl_X6_hasPlace wi_X6_hasPlace wl_X6_hasPlace km_X1_51 rfl rfl (nle rfl) (nle rfl) (nle rfl) dX1_makes_90 hC63 ?_
      show S0 X _ M 93 [some (.ref (gh (xG X) + a0)), some (.int p1), some (.int p2), some (.int p3), none, none] [.int q61] _
      refine s_join M (fun s65 : Int32 => M) 125 (fun s65 : Int32 => [some (.ref (gh (xG X) + a0)), some (.int p1), some (.int p2), some (.int p3), none, none]) (fun s65 : Int32 => [.int s65]) (fun s65 hs66 => ?_) (fun j64 hj67 => ?_)
      · show S0 X _ M 125 [some (.ref (gh (xG X) + a0)), some (.int p1), some (.int p2), some (.int p3), none, none] [.int s65] _
        refine s_istore (pc := 125) dX1_makes_125 (nlt rfl) rfl (L' := [some (.ref (gh (xG X) + a0)), some (.int p1), some (.int p2), some (.int p3), some (.int s65), none]) rfl ?_
        exact s_drop (hj4 s65 Le.rf) (And.intro rfl (And.intro rfl (And.intro rfl (And.intro rfl (And.intro rfl trivial)))))
      · refine s_ifeq (pc := 93) 124 dX1_makes_93 rfl ?_ ?_
        · refine s_iconst (pc := 124) (-1) dX1_makes_124 kc_m1 ?_
          exact s_drop (hj67 (-1) Le.rf) (And.intro rfl (And.intro rfl (And.intro rfl (And.intro rfl trivial))))
        · refine s_aload_n (pc := 96) 0 dX1_makes_96 rfl rfl ?_
          refine s_geto (pc := 97) F_1 2 rfl o58 dX1_makes_97 kf_X1_12 ?_
          refine s_rvB (fun r68 => ?_)
          refine s_iload_n (pc := 100) 2 dX1_makes_100 rfl rfl ?_
          refine s_aload_n (pc := 101) 0 dX1_makes_101 rfl rfl ?_
          refine s_geto (pc := 102) F_1 0 rfl o58 dX1_makes_102 kf_X1_25 ?_
          refine s_rvB (fun r69 => ?_)
          refine s_grd (fun o70 => ?_)
          refine s_getoN (pc := 105) F_10 2 rfl o70 dX1_makes_105 (List.mem_of_getElem? (i := 3) rfl) ?_
          refine s_rvB (fun r71 => ?_)
          refine s_aload_n (pc := 108) 0 dX1_makes_108 rfl rfl ?_
          refine s_geto (pc := 109) F_1 2 rfl o58 dX1_makes_109 kf_X1_12 ?_
          refine s_rvB (fun r72 => ?_)
          refine s_grd (fun o73 => ?_)
          refine s_geto (pc := 112) F_6 0 rfl o73 dX1_makes_112 kf_X1_60 ?_
          refine s_rvB (fun r74 => ?_)
          refine s_iload_n (pc := 115) 2 dX1_makes_115 rfl rfl ?_
          refine s_grd (fun o75 => ?_)
          refine s_grd (fun i76 => ?_)
          refine s_iald (pc := 116) o75 i76 dX1_makes_116 ?_
          refine s_grd (fun o77 => ?_)
          refine s_grd (fun i78 => ?_)
          refine s_iald (pc := 117) o77 i78 dX1_makes_117 ?_
          refine s_grd (fun o79 => ?_)
          refine s_bind (fun q80 hq81 => ?_)
          have hC82 := t_X6_replaced (l := xl X) (G := xG X) hq81
          refine s_callV (pc := 118) (As := [.int p2, .int (mI M r71 (mI M r74 p2.toNatClampNeg).toNatClampNeg)]) (st := []) (nlt rfl) (q := (RX6, TX6, 4)) rfl rfl o79 cl_X6_replaced wi_X6_replaced wl_X6_replaced km_X1_63 rfl rfl (nle rfl) (nle rfl) (nle rfl) dX1_makes_118 hC82 ?_
          show S0 X _ M 121 [some (.ref (gh (xG X) + a0)), some (.int p1), some (.int p2), some (.int p3), none, none] [.int q80] _
          refine s_goto (pc := 121) 125 dX1_makes_121 rfl ?_
          exact s_drop (hj67 q80 Le.rf) (And.intro rfl (And.intro rfl (And.intro rfl (And.intro rfl trivial))))
