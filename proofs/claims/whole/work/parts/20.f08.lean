set_option maxRecDepth 100000 in
set_option maxHeartbeats 8000000 in
noncomputable def f_X10_groupsBy (M : Mem) (a0 : Nat) (p1 : Int32) (p2 : Int32) : Option Int32 :=
  Option.bind (loopO (σ := Int32 × Int32) (ρ := Int32) (fun s1 => if 6 ≤ s1.2 then (some (.inr s1.1)) else (bv (s1.1 ||| (sl (((sr p2 s1.2) &&& 1) * 7) (3 * s1.2)) : Int32) (fun x9 => bv (s1.2 + 1 : Int32) (fun x10 => some (.inl (x9, x10)))))) (0, 0)) (fun (x7 : Int32) => Option.bind (loopO (σ := Int32 × Int32) (ρ := Int32) (fun s11 => grd (okO M 10 a0) (if (mI M a0 8) ≤ s11.2 then (some (.inr s11.1)) else (bv (fun (s21 : Int32) => bv (s11.1 + s21 : Int32) (fun x24 => bv (s11.2 + 1 : Int32) (fun x25 => some (.inl (x24, x25))))) (fun j20 => bv (fun (s27 : Unit) => j20 0) (fun j26 => if ((sr p1 s11.2) &&& 1) = 1 then (Option.bind (f_X10_isLikeEarlier M a0 p1 s11.2 x7) (fun q30 => if q30 = 0 then (j20 1) else (j26 ()))) else (j26 ())))))) (0, 0)) (fun (x17 : Int32) => some x17))
abbrev Y_X10_groupsBy : Sta := (RX10, "groupsBy", cX10_groupsBy, 6, (some .int), 2)
set_option maxRecDepth 100000 in
set_option maxHeartbeats 8000000 in
theorem t_X10_groupsBy {l : Launch} {G : Gh} {M : Mem} {a0 : Nat} {p1 : Int32} {p2 : Int32} {q : Int32} (h : f_X10_groupsBy M a0 p1 p2 = some q) : Ctr l G yX10_groupsBy Y_X10_groupsBy M [.ref (gh G + a0), .int p1, .int p2] M (some (.int q)) := by
  refine Ctr.of (Y := Y_X10_groupsBy) (L := [some (.ref (gh G + a0)), some (.int p1), some (.int p2), none, none, none]) (t := Option.bind (f_X10_groupsBy M a0 p1 p2) (fun q => some (M, some (.int q)))) (by decide) rfl rfl (nle rfl) (Lof_in 3 _ rfl) (fun X hG hl => ?_) (by rw [h]; rfl)
  subst hG
  subst hl
  unfold f_X10_groupsBy
  refine s_iconst (pc := 0) 0 dX10_groupsBy_0 kc_0 ?_
  refine s_istore_n (pc := 1) 3 dX10_groupsBy_1 rfl (nlt rfl) rfl (L' := [some (.ref (gh (xG X) + a0)), some (.int p1), some (.int p2), some (.int 0), none, none]) rfl ?_
  refine s_iconst (pc := 2) 0 dX10_groupsBy_2 kc_0 ?_
  refine s_istore (pc := 3) dX10_groupsBy_3 (nlt rfl) rfl (L' := [some (.ref (gh (xG X) + a0)), some (.int p1), some (.int p2), some (.int 0), some (.int 0), none]) rfl ?_
  refine s_drop (L' := [some (.ref (gh (xG X) + a0)), some (.int p1), some (.int p2), some (.int 0), some (.int 0), none]) ?_ (And.intro rfl (And.intro rfl (And.intro rfl (And.intro rfl (And.intro rfl trivial)))))
  refine s_loop1 M (fun s1 : Int32 × Int32 => M) (fun s1 : Int32 × Int32 => [some (.ref (gh (xG X) + a0)), some (.int p1), some (.int p2), some (.int s1.1), some (.int s1.2), none]) (fun x7 : Int32 => M) 35 (fun x7 : Int32 => [some (.ref (gh (xG X) + a0)), some (.int p1), none, some (.int x7), none, none]) (fun x7 hx8 => ?_) (fun T3 R5 hT4 hR6 s1 hs2 => ?_) (0, 0) Le.rf
  · show S0 X _ M 35 [some (.ref (gh (xG X) + a0)), some (.int p1), none, some (.int x7), none, none] [] _
    refine s_iconst (pc := 35) 0 dX10_groupsBy_35 kc_0 ?_
    refine s_istore (pc := 36) dX10_groupsBy_36 (nlt rfl) rfl (L' := [some (.ref (gh (xG X) + a0)), some (.int p1), none, some (.int x7), some (.int 0), none]) rfl ?_
    refine s_iconst (pc := 38) 0 dX10_groupsBy_38 kc_0 ?_
    refine s_istore (pc := 39) dX10_groupsBy_39 (nlt rfl) rfl (L' := [some (.ref (gh (xG X) + a0)), some (.int p1), none, some (.int x7), some (.int 0), some (.int 0)]) rfl ?_
    refine s_drop (L' := [some (.ref (gh (xG X) + a0)), some (.int p1), none, some (.int x7), some (.int 0), some (.int 0)]) ?_ (And.intro rfl (And.intro rfl (And.intro rfl (And.intro rfl (And.intro rfl trivial)))))
    refine s_loop1 M (fun s11 : Int32 × Int32 => M) (fun s11 : Int32 × Int32 => [some (.ref (gh (xG X) + a0)), some (.int p1), none, some (.int x7), some (.int s11.1), some (.int s11.2)]) (fun x17 : Int32 => M) 87 (fun x17 : Int32 => [none, none, none, none, some (.int x17), none]) (fun x17 hx18 => ?_) (fun T13 R15 hT14 hR16 s11 hs12 => ?_) (0, 0) Le.rf
    · show S0 X _ M 87 [none, none, none, none, some (.int x17), none] [] _
      refine s_iload (pc := 87) dX10_groupsBy_87 rfl ?_
      exact s_iret rfl dX10_groupsBy_89
    · show S0 X _ M 41 [some (.ref (gh (xG X) + a0)), some (.int p1), none, some (.int x7), some (.int s11.1), some (.int s11.2)] [] _
      refine s_iload (pc := 41) dX10_groupsBy_41 rfl ?_
      refine s_aload_n (pc := 43) 0 dX10_groupsBy_43 rfl rfl ?_
      refine s_grd (fun o19 => ?_)
      refine s_geti (pc := 44) F_10 8 rfl o19 dX10_groupsBy_44 kf_X10_55 ?_
      refine s_icge (pc := 47) 87 dX10_groupsBy_47 rfl ?_ ?_
      · exact s_drop (hR16 s11.1 Le.rf) (And.intro rfl trivial)
      · refine s_iload (pc := 50) dX10_groupsBy_50 rfl ?_
        refine s_iload_n (pc := 52) 1 dX10_groupsBy_52 rfl rfl ?_
        refine s_iload (pc := 53) dX10_groupsBy_53 rfl ?_
        refine s_ishr (pc := 55) dX10_groupsBy_55 ?_
        refine s_iconst (pc := 56) 1 dX10_groupsBy_56 kc_1 ?_
        refine s_iand (pc := 57) dX10_groupsBy_57 ?_
        refine s_iconst (pc := 58) 1 dX10_groupsBy_58 kc_1 ?_
        refine s_join M (fun s21 : Int32 => M) 78 (fun s21 : Int32 => [some (.ref (gh (xG X) + a0)), some (.int p1), none, some (.int x7), none, some (.int s11.2)]) (fun s21 : Int32 => [.int s21, .int s11.1]) (fun s21 hs22 => ?_) (fun j20 hj23 => ?_)
        · show S0 X _ M 78 [some (.ref (gh (xG X) + a0)), some (.int p1), none, some (.int x7), none, some (.int s11.2)] [.int s21, .int s11.1] _
          refine s_iadd (pc := 78) dX10_groupsBy_78 ?_
          refine s_istore (pc := 79) dX10_groupsBy_79 (nlt rfl) rfl (L' := [some (.ref (gh (xG X) + a0)), some (.int p1), none, some (.int x7), some (.int (s11.1 + s21)), some (.int s11.2)]) rfl ?_
          refine s_bv (fun x24 : Int32 => [some (.ref (gh (xG X) + a0)), some (.int p1), none, some (.int x7), some (.int x24), some (.int s11.2)]) (fun x24 => ?_) rfl
          refine s_iinc (pc := 81) dX10_groupsBy_81 rfl (v := s11.2 + 1) (congrArg (fun z : Int32 => s11.2 + z) kc_1) (nlt rfl) rfl (L' := [some (.ref (gh (xG X) + a0)), some (.int p1), none, some (.int x7), some (.int x24), some (.int (s11.2 + 1))]) rfl ?_
          refine s_bv (fun x25 : Int32 => [some (.ref (gh (xG X) + a0)), some (.int p1), none, some (.int x7), some (.int x24), some (.int x25)]) (fun x25 => ?_) rfl
          refine s_goto (pc := 84) 41 dX10_groupsBy_84 rfl ?_
          exact s_drop (hT14 (x24, x25) Le.rf) (And.intro rfl (And.intro rfl (And.intro rfl (And.intro rfl (And.intro rfl trivial)))))
        · refine s_join M (fun s27 : Unit => M) 77 (fun s27 : Unit => [some (.ref (gh (xG X) + a0)), some (.int p1), none, some (.int x7), none, some (.int s11.2)]) (fun s27 : Unit => [.int s11.1]) (fun s27 hs28 => ?_) (fun j26 hj29 => ?_)
          · show S0 X _ M 77 [some (.ref (gh (xG X) + a0)), some (.int p1), none, some (.int x7), none, some (.int s11.2)] [.int s11.1] _
            refine s_iconst (pc := 77) 0 dX10_groupsBy_77 kc_0 ?_
            exact s_drop (hj23 0 Le.rf) (And.intro rfl (And.intro rfl (And.intro rfl (And.intro rfl trivial))))
          · refine s_icne (pc := 59) 77 dX10_groupsBy_59 rfl ?_ ?_
            · exact s_drop (hj29 () Le.rf) (And.intro rfl (And.intro rfl (And.intro rfl (And.intro rfl trivial))))
            · refine s_aload_n (pc := 62) 0 dX10_groupsBy_62 rfl rfl ?_
              refine s_iload_n (pc := 63) 1 dX10_groupsBy_63 rfl rfl ?_
              refine s_iload (pc := 64) dX10_groupsBy_64 rfl ?_
              refine s_iload_n (pc := 66) 3 dX10_groupsBy_66 rfl rfl ?_
              refine s_bind (fun q30 hq31 => ?_)
              have hC32 := t_X10_isLikeEarlier (l := xl X) (G := xG X) hq31
              refine s_callV (pc := 67) (As := [.int p1, .int s11.2, .int x7]) (st := [.int s11.1]) (nlt rfl) (q := (RX10, TX10, 15)) rfl rfl o19 cl_X10_isLikeEarlier wi_X10_isLikeEarlier wl_X10_isLikeEarlier km_X10_92 rfl rfl (nle rfl) (nle rfl) (nle rfl) dX10_groupsBy_67 hC32 ?_
              show S0 X _ M 70 [some (.ref (gh (xG X) + a0)), some (.int p1), none, some (.int x7), some (.int s11.1), some (.int s11.2)] [.int q30, .int s11.1] _
              refine s_ifne (pc := 70) 77 dX10_groupsBy_70 rfl ?_ ?_
              · exact s_drop (hj29 () Le.rf) (And.intro rfl (And.intro rfl (And.intro rfl (And.intro rfl trivial))))
              · refine s_iconst (pc := 73) 1 dX10_groupsBy_73 kc_1 ?_
                refine s_goto (pc := 74) 78 dX10_groupsBy_74 rfl ?_
                exact s_drop (hj23 1 Le.rf) (And.intro rfl (And.intro rfl (And.intro rfl (And.intro rfl trivial))))
  · show S0 X _ M 5 [some (.ref (gh (xG X) + a0)), some (.int p1), some (.int p2), some (.int s1.1), some (.int s1.2), none] [] _
    refine s_iload (pc := 5) dX10_groupsBy_5 rfl ?_
    refine s_bipush (pc := 7) 6 dX10_groupsBy_7 kb_6 ?_
    refine s_icge (pc := 9) 35 dX10_groupsBy_9 rfl ?_ ?_
    · exact s_drop (hR6 s1.1 Le.rf) (And.intro rfl (And.intro rfl (And.intro rfl trivial)))
    · refine s_iload_n (pc := 12) 3 dX10_groupsBy_12 rfl rfl ?_
      refine s_iload_n (pc := 13) 2 dX10_groupsBy_13 rfl rfl ?_
      refine s_iload (pc := 14) dX10_groupsBy_14 rfl ?_
      refine s_ishr (pc := 16) dX10_groupsBy_16 ?_
      refine s_iconst (pc := 17) 1 dX10_groupsBy_17 kc_1 ?_
      refine s_iand (pc := 18) dX10_groupsBy_18 ?_
      refine s_bipush (pc := 19) 7 dX10_groupsBy_19 kb_7 ?_
      refine s_imul (pc := 21) dX10_groupsBy_21 ?_
      refine s_iconst (pc := 22) 3 dX10_groupsBy_22 kc_3 ?_
      refine s_iload (pc := 23) dX10_groupsBy_23 rfl ?_
      refine s_imul (pc := 25) dX10_groupsBy_25 ?_
      refine s_ishl (pc := 26) dX10_groupsBy_26 ?_
      refine s_ior (pc := 27) dX10_groupsBy_27 ?_
      refine s_istore_n (pc := 28) 3 dX10_groupsBy_28 rfl (nlt rfl) rfl (L' := [some (.ref (gh (xG X) + a0)), some (.int p1), some (.int p2), some (.int (s1.1 ||| (sl (((sr p2 s1.2) &&& 1) * 7) (3 * s1.2)))), some (.int s1.2), none]) rfl ?_
      refine s_bv (fun x9 : Int32 => [some (.ref (gh (xG X) + a0)), some (.int p1), some (.int p2), some (.int x9), some (.int s1.2), none]) (fun x9 => ?_) rfl
      refine s_iinc (pc := 29) dX10_groupsBy_29 rfl (v := s1.2 + 1) (congrArg (fun z : Int32 => s1.2 + z) kc_1) (nlt rfl) rfl (L' := [some (.ref (gh (xG X) + a0)), some (.int p1), some (.int p2), some (.int x9), some (.int (s1.2 + 1)), none]) rfl ?_
      refine s_bv (fun x10 : Int32 => [some (.ref (gh (xG X) + a0)), some (.int p1), some (.int p2), some (.int x9), some (.int x10), none]) (fun x10 => ?_) rfl
      refine s_goto (pc := 32) 5 dX10_groupsBy_32 rfl ?_
      exact s_drop (hT4 (x9, x10) Le.rf) (And.intro rfl (And.intro rfl (And.intro rfl (And.intro rfl (And.intro rfl trivial)))))
set_option maxRecDepth 100000 in
set_option maxHeartbeats 8000000 in
noncomputable def f_X10_isPoor (M : Mem) (a0 : Nat) (p1 : Int32) (p2 : Int32) : Option Int32 :=
  Option.bind (loopO (σ := Int32 × Int32) (ρ := Int32 ⊕ Unit) (fun s1 => grd (okO M 10 a0) (if (mI M a0 8) ≤ s1.2 then (some (.inr (.inl s1.1))) else (Option.bind (f_X10_holds M a0 s1.2 p2) (fun q14 => bv (fun (s18 : Int32) => bv (s1.2 + 1 : Int32) (fun x21 => some (.inl (s18, x21)))) (fun j17 => if q14 ≤ 0 then (j17 s1.1) else (Option.bind (mR M a0 4) (fun r22 => grd (okO M 14 r22) (grd (vp_in s1.2 (mL M r22)) (if (mI M r22 s1.2.toNatClampNeg) < p1 then (j17 1) else (some (.inr (.inr ())))))))))))) (0, 0)) (Sum.elim (fun (x9 : Int32) => grd (bl x9) (some x9)) (fun (x11 : Unit) => some 0))
abbrev Y_X10_isPoor : Sta := (RX10, "isPoor", cX10_isPoor, 5, (some .boolean), 2)
set_option maxRecDepth 100000 in
set_option maxHeartbeats 8000000 in
theorem t_X10_isPoor {l : Launch} {G : Gh} {M : Mem} {a0 : Nat} {p1 : Int32} {p2 : Int32} {q : Int32} (h : f_X10_isPoor M a0 p1 p2 = some q) : Ctr l G yX10_isPoor Y_X10_isPoor M [.ref (gh G + a0), .int p1, .int p2] M (some (.int q)) := by
  refine Ctr.of (Y := Y_X10_isPoor) (L := [some (.ref (gh G + a0)), some (.int p1), some (.int p2), none, none]) (t := Option.bind (f_X10_isPoor M a0 p1 p2) (fun q => some (M, some (.int q)))) (by decide) rfl rfl (nle rfl) (Lof_in 2 _ rfl) (fun X hG hl => ?_) (by rw [h]; rfl)
  subst hG
  subst hl
  unfold f_X10_isPoor
  refine s_iconst (pc := 0) 0 dX10_isPoor_0 kc_0 ?_
  refine s_istore_n (pc := 1) 3 dX10_isPoor_1 rfl (nlt rfl) rfl (L' := [some (.ref (gh (xG X) + a0)), some (.int p1), some (.int p2), some (.int 0), none]) rfl ?_
  refine s_iconst (pc := 2) 0 dX10_isPoor_2 kc_0 ?_
  refine s_istore (pc := 3) dX10_isPoor_3 (nlt rfl) rfl (L' := [some (.ref (gh (xG X) + a0)), some (.int p1), some (.int p2), some (.int 0), some (.int 0)]) rfl ?_
  refine s_drop (L' := [some (.ref (gh (xG X) + a0)), some (.int p1), some (.int p2), some (.int 0), some (.int 0)]) ?_ (And.intro rfl (And.intro rfl (And.intro rfl (And.intro rfl (And.intro rfl trivial)))))
  refine s_loop2 M (fun s1 : Int32 × Int32 => M) (fun s1 : Int32 × Int32 => [some (.ref (gh (xG X) + a0)), some (.int p1), some (.int p2), some (.int s1.1), some (.int s1.2)]) (fun x9 : Int32 => M) 45 (fun x9 : Int32 => [none, none, none, some (.int x9), none]) (fun x11 : Unit => M) 35 (fun x11 : Unit => [none, none, none, none, none]) (fun x9 hx10 => ?_) (fun x11 hx12 => ?_) (fun T3 R5 R7 hT4 hR6 hR8 s1 hs2 => ?_) (0, 0) Le.rf
  · show S0 X _ M 45 [none, none, none, some (.int x9), none] [] _
    refine s_iload_n (pc := 45) 3 dX10_isPoor_45 rfl rfl ?_
    refine s_grd (fun g25 => ?_)
    exact s_zret rfl g25 dX10_isPoor_46
  · show S0 X _ M 35 [none, none, none, none, none] [] _
    refine s_iconst (pc := 35) 0 dX10_isPoor_35 kc_0 ?_
    exact s_zret rfl rfl dX10_isPoor_36
  · show S0 X _ M 5 [some (.ref (gh (xG X) + a0)), some (.int p1), some (.int p2), some (.int s1.1), some (.int s1.2)] [] _
    refine s_iload (pc := 5) dX10_isPoor_5 rfl ?_
    refine s_aload_n (pc := 7) 0 dX10_isPoor_7 rfl rfl ?_
    refine s_grd (fun o13 => ?_)
    refine s_geti (pc := 8) F_10 8 rfl o13 dX10_isPoor_8 kf_X10_55 ?_
    refine s_icge (pc := 11) 45 dX10_isPoor_11 rfl ?_ ?_
    · exact s_drop (hR6 s1.1 Le.rf) (And.intro rfl trivial)
    · refine s_aload_n (pc := 14) 0 dX10_isPoor_14 rfl rfl ?_
      refine s_iload (pc := 15) dX10_isPoor_15 rfl ?_
      refine s_iload_n (pc := 17) 2 dX10_isPoor_17 rfl rfl ?_
      refine s_bind (fun q14 hq15 => ?_)
      have hC16 := t_X10_holds (l := xl X) (G := xG X) hq15
      refine s_callV (pc := 18) (As := [.int s1.2, .int p2]) (st := []) (nlt rfl) (q := (RX10, TX10, 15)) rfl rfl o13 cl_X10_holds wi_X10_holds wl_X10_holds km_X10_89 rfl rfl (nle rfl) (nle rfl) (nle rfl) dX10_isPoor_18 hC16 ?_
      show S0 X _ M 21 [some (.ref (gh (xG X) + a0)), some (.int p1), some (.int p2), some (.int s1.1), some (.int s1.2)] [.int q14] _
      refine s_join M (fun s18 : Int32 => M) 39 (fun s18 : Int32 => [some (.ref (gh (xG X) + a0)), some (.int p1), some (.int p2), some (.int s18), some (.int s1.2)]) (fun s18 : Int32 => []) (fun s18 hs19 => ?_) (fun j17 hj20 => ?_)
      · show S0 X _ M 39 [some (.ref (gh (xG X) + a0)), some (.int p1), some (.int p2), some (.int s18), some (.int s1.2)] [] _
        refine s_iinc (pc := 39) dX10_isPoor_39 rfl (v := s1.2 + 1) (congrArg (fun z : Int32 => s1.2 + z) kc_1) (nlt rfl) rfl (L' := [some (.ref (gh (xG X) + a0)), some (.int p1), some (.int p2), some (.int s18), some (.int (s1.2 + 1))]) rfl ?_
        refine s_bv (fun x21 : Int32 => [some (.ref (gh (xG X) + a0)), some (.int p1), some (.int p2), some (.int s18), some (.int x21)]) (fun x21 => ?_) rfl
        refine s_goto (pc := 42) 5 dX10_isPoor_42 rfl ?_
        exact s_drop (hT4 (s18, x21) Le.rf) (And.intro rfl (And.intro rfl (And.intro rfl (And.intro rfl (And.intro rfl trivial)))))
      · refine s_ifle (pc := 21) 39 dX10_isPoor_21 rfl ?_ ?_
        · exact s_drop (hj20 s1.1 Le.rf) (And.intro rfl (And.intro rfl (And.intro rfl (And.intro rfl (And.intro rfl trivial)))))
        · refine s_aload_n (pc := 24) 0 dX10_isPoor_24 rfl rfl ?_
          refine s_geto (pc := 25) F_10 4 rfl o13 dX10_isPoor_25 kf_X10_24 ?_
          refine s_rvB (fun r22 => ?_)
          refine s_iload (pc := 28) dX10_isPoor_28 rfl ?_
          refine s_grd (fun o23 => ?_)
          refine s_grd (fun i24 => ?_)
          refine s_iald (pc := 30) o23 i24 dX10_isPoor_30 ?_
          refine s_iload_n (pc := 31) 1 dX10_isPoor_31 rfl rfl ?_
          refine s_iclt (pc := 32) 37 dX10_isPoor_32 rfl ?_ ?_
          · refine s_iconst (pc := 37) 1 dX10_isPoor_37 kc_1 ?_
            refine s_istore_n (pc := 38) 3 dX10_isPoor_38 rfl (nlt rfl) rfl (L' := [some (.ref (gh (xG X) + a0)), some (.int p1), some (.int p2), some (.int 1), some (.int s1.2)]) rfl ?_
            exact s_drop (hj20 1 Le.rf) (And.intro rfl (And.intro rfl (And.intro rfl (And.intro rfl (And.intro rfl trivial)))))
          · exact s_drop (hR8 () Le.rf) trivial
set_option maxRecDepth 100000 in
set_option maxHeartbeats 8000000 in
noncomputable def f_X10_takeFrom (M : Mem) (a0 : Nat) (a1 : Nat) : Option Mem :=
  grd (okO M 10 a1) (Option.bind (mR M a1 0) (fun r2 => grd (okO M 10 a0) (Option.bind (mR M a0 0) (fun r4 => grd (okO M 14 r2) (grd (okO M 14 r4) (grd (cpok 0 6 (mL M r2)) (grd (cpok 0 6 (mL M r4)) (bv (cpI M r2 0 r4 0 6) (fun M9 => Option.bind (mR M9 a1 1) (fun r14 => Option.bind (mR M9 a0 1) (fun r15 => grd (okO M9 14 r14) (grd (okO M9 14 r15) (grd (cpok 0 6 (mL M9 r14)) (grd (cpok 0 6 (mL M9 r15)) (bv (cpI M9 r14 0 r15 0 6) (fun M20 => Option.bind (mR M20 a1 2) (fun r25 => Option.bind (mR M20 a0 2) (fun r26 => grd (okO M20 14 r25) (grd (okO M20 14 r26) (grd (cpok 0 6 (mL M20 r25)) (grd (cpok 0 6 (mL M20 r26)) (bv (cpI M20 r25 0 r26 0 6) (fun M31 => Option.bind (mR M31 a1 3) (fun r36 => Option.bind (mR M31 a0 3) (fun r37 => grd (okO M31 14 r36) (grd (okO M31 14 r37) (grd (cpok 0 12 (mL M31 r36)) (grd (cpok 0 12 (mL M31 r37)) (bv (cpI M31 r36 0 r37 0 12) (fun M42 => Option.bind (mR M42 a1 4) (fun r47 => Option.bind (mR M42 a0 4) (fun r48 => grd (okO M42 14 r47) (grd (okO M42 14 r48) (grd (cpok 0 12 (mL M42 r47)) (grd (cpok 0 12 (mL M42 r48)) (bv (cpI M42 r47 0 r48 0 12) (fun M53 => Option.bind (mR M53 a1 5) (fun r58 => Option.bind (mR M53 a0 5) (fun r59 => grd (okO M53 14 r58) (grd (okO M53 14 r59) (grd (cpok 0 12 (mL M53 r58)) (grd (cpok 0 12 (mL M53 r59)) (bv (cpI M53 r58 0 r59 0 12) (fun M64 => Option.bind (mR M64 a1 6) (fun r69 => Option.bind (mR M64 a0 6) (fun r70 => grd (okO M64 14 r69) (grd (okO M64 14 r70) (grd (cpok 0 12 (mL M64 r69)) (grd (cpok 0 12 (mL M64 r70)) (bv (cpI M64 r69 0 r70 0 12) (fun M75 => Option.bind (mR M75 a1 7) (fun r80 => Option.bind (mR M75 a0 7) (fun r81 => grd (okO M75 19 r80) (grd (okO M75 19 r81) (grd (cpok 0 6 (mL M75 r80)) (grd (cpok 0 6 (mL M75 r81)) (grd (∀ i : Nat, i < (6 : Int32).toNatClampNeg → ∀ y : Nat, mR M75 r80 ((0 : Int32).toNatClampNeg + i) = some y → okO M75 9 y) (bv (cpR M75 r80 0 r81 0 6) (fun M87 => bv (wI M87 a0 8 (mI M87 a1 8)) (fun M92 => bv (wI M92 a0 9 (mI M92 a1 9)) (fun M97 => bv (wI M97 a0 10 (mI M97 a1 10)) (fun M102 => bv (wI M102 a0 11 (mI M102 a1 11)) (fun M107 => bv (wI M107 a0 12 (mI M107 a1 12)) (fun M112 => Option.bind (f_X10_touchRules M112 a0) (fun q117 => some q117)))))))))))))))))))))))))))))))))))))))))))))))))))))))))))))))))
abbrev Y_X10_takeFrom : Sta := (RX10, "takeFrom", cX10_takeFrom, 2, none, 2)
set_option maxRecDepth 100000 in
set_option maxHeartbeats 8000000 in
theorem t_X10_takeFrom {l : Launch} {G : Gh} {M : Mem} {a0 : Nat} {a1 : Nat} {q : Mem} (h : f_X10_takeFrom M a0 a1 = some q) : Ctr l G yX10_takeFrom Y_X10_takeFrom M [.ref (gh G + a0), .ref (gh G + a1)] q (none) := by
  refine Ctr.of (Y := Y_X10_takeFrom) (L := [some (.ref (gh G + a0)), some (.ref (gh G + a1))]) (t := Option.bind (f_X10_takeFrom M a0 a1) (fun q => some (q, (none : Option Value)))) (by decide) rfl rfl (nle rfl) (Lof_in 0 _ rfl) (fun X hG hl => ?_) (by rw [h]; rfl)
  subst hG
  subst hl
  unfold f_X10_takeFrom
  refine s_aload_n (pc := 0) 1 dX10_takeFrom_0 rfl rfl ?_
  refine s_grd (fun o1 => ?_)
  refine s_geto (pc := 1) F_10 0 rfl o1 dX10_takeFrom_1 kf_X10_9 ?_
  refine s_rvB (fun r2 => ?_)
  refine s_iconst (pc := 4) 0 dX10_takeFrom_4 kc_0 ?_
  refine s_aload_n (pc := 5) 0 dX10_takeFrom_5 rfl rfl ?_
  refine s_grd (fun o3 => ?_)
  refine s_geto (pc := 6) F_10 0 rfl o3 dX10_takeFrom_6 kf_X10_9 ?_
  refine s_rvB (fun r4 => ?_)
  refine s_iconst (pc := 9) 0 dX10_takeFrom_9 kc_0 ?_
  refine s_bipush (pc := 10) 6 dX10_takeFrom_10 kb_6 ?_
  refine s_grd (fun o5 => ?_)
  refine s_grd (fun o6 => ?_)
  refine s_grd (fun g7 => ?_)
  refine s_grd (fun g8 => ?_)
  refine s_copyi (pc := 12) o5 o6 g7 g8 cpyW km_X10_49 (nle rfl) (nle rfl) dX10_takeFrom_12 (fun M9 hM10 => ?_)
  have h11 := le_cI hM10
  have o12 := h11.ok o1
  have o13 := h11.ok o3
  refine s_aload_n (pc := 15) 1 dX10_takeFrom_15 rfl rfl ?_
  refine s_geto (pc := 16) F_10 1 rfl o12 dX10_takeFrom_16 kf_X10_15 ?_
  refine s_rvB (fun r14 => ?_)
  refine s_iconst (pc := 19) 0 dX10_takeFrom_19 kc_0 ?_
  refine s_aload_n (pc := 20) 0 dX10_takeFrom_20 rfl rfl ?_
  refine s_geto (pc := 21) F_10 1 rfl o13 dX10_takeFrom_21 kf_X10_15 ?_
  refine s_rvB (fun r15 => ?_)
  refine s_iconst (pc := 24) 0 dX10_takeFrom_24 kc_0 ?_
  refine s_bipush (pc := 25) 6 dX10_takeFrom_25 kb_6 ?_
  refine s_grd (fun o16 => ?_)
  refine s_grd (fun o17 => ?_)
  refine s_grd (fun g18 => ?_)
  refine s_grd (fun g19 => ?_)
  refine s_copyi (pc := 27) o16 o17 g18 g19 cpyW km_X10_49 (nle rfl) (nle rfl) dX10_takeFrom_27 (fun M20 hM21 => ?_)
  have h22 := le_cI hM21
  have o23 := h22.ok o12
  have o24 := h22.ok o13
  refine s_aload_n (pc := 30) 1 dX10_takeFrom_30 rfl rfl ?_
  refine s_geto (pc := 31) F_10 2 rfl o23 dX10_takeFrom_31 kf_X10_18 ?_
  refine s_rvB (fun r25 => ?_)
  refine s_iconst (pc := 34) 0 dX10_takeFrom_34 kc_0 ?_
  refine s_aload_n (pc := 35) 0 dX10_takeFrom_35 rfl rfl ?_
  refine s_geto (pc := 36) F_10 2 rfl o24 dX10_takeFrom_36 kf_X10_18 ?_
  refine s_rvB (fun r26 => ?_)
  refine s_iconst (pc := 39) 0 dX10_takeFrom_39 kc_0 ?_
  refine s_bipush (pc := 40) 6 dX10_takeFrom_40 kb_6 ?_
  refine s_grd (fun o27 => ?_)
  refine s_grd (fun o28 => ?_)
  refine s_grd (fun g29 => ?_)
  refine s_grd (fun g30 => ?_)
  refine s_copyi (pc := 42) o27 o28 g29 g30 cpyW km_X10_49 (nle rfl) (nle rfl) dX10_takeFrom_42 (fun M31 hM32 => ?_)
  have h33 := le_cI hM32
  have o34 := h33.ok o23
  have o35 := h33.ok o24
  refine s_aload_n (pc := 45) 1 dX10_takeFrom_45 rfl rfl ?_
  refine s_geto (pc := 46) F_10 3 rfl o34 dX10_takeFrom_46 kf_X10_21 ?_
  refine s_rvB (fun r36 => ?_)
  refine s_iconst (pc := 49) 0 dX10_takeFrom_49 kc_0 ?_
  refine s_aload_n (pc := 50) 0 dX10_takeFrom_50 rfl rfl ?_
  refine s_geto (pc := 51) F_10 3 rfl o35 dX10_takeFrom_51 kf_X10_21 ?_
  refine s_rvB (fun r37 => ?_)
  refine s_iconst (pc := 54) 0 dX10_takeFrom_54 kc_0 ?_
  refine s_bipush (pc := 55) 12 dX10_takeFrom_55 kb_12 ?_
  refine s_grd (fun o38 => ?_)
  refine s_grd (fun o39 => ?_)
  refine s_grd (fun g40 => ?_)
  refine s_grd (fun g41 => ?_)
  refine s_copyi (pc := 57) o38 o39 g40 g41 cpyW km_X10_49 (nle rfl) (nle rfl) dX10_takeFrom_57 (fun M42 hM43 => ?_)
  have h44 := le_cI hM43
  have o45 := h44.ok o34
  have o46 := h44.ok o35
  refine s_aload_n (pc := 60) 1 dX10_takeFrom_60 rfl rfl ?_
  refine s_geto (pc := 61) F_10 4 rfl o45 dX10_takeFrom_61 kf_X10_24 ?_
  refine s_rvB (fun r47 => ?_)
  refine s_iconst (pc := 64) 0 dX10_takeFrom_64 kc_0 ?_
  refine s_aload_n (pc := 65) 0 dX10_takeFrom_65 rfl rfl ?_
  refine s_geto (pc := 66) F_10 4 rfl o46 dX10_takeFrom_66 kf_X10_24 ?_
  refine s_rvB (fun r48 => ?_)
  refine s_iconst (pc := 69) 0 dX10_takeFrom_69 kc_0 ?_
  refine s_bipush (pc := 70) 12 dX10_takeFrom_70 kb_12 ?_
  refine s_grd (fun o49 => ?_)
  refine s_grd (fun o50 => ?_)
  refine s_grd (fun g51 => ?_)
  refine s_grd (fun g52 => ?_)
  refine s_copyi (pc := 72) o49 o50 g51 g52 cpyW km_X10_49 (nle rfl) (nle rfl) dX10_takeFrom_72 (fun M53 hM54 => ?_)
  have h55 := le_cI hM54
  have o56 := h55.ok o45
  have o57 := h55.ok o46
  refine s_aload_n (pc := 75) 1 dX10_takeFrom_75 rfl rfl ?_
  refine s_geto (pc := 76) F_10 5 rfl o56 dX10_takeFrom_76 kf_X10_27 ?_
  refine s_rvB (fun r58 => ?_)
  refine s_iconst (pc := 79) 0 dX10_takeFrom_79 kc_0 ?_
  refine s_aload_n (pc := 80) 0 dX10_takeFrom_80 rfl rfl ?_
  refine s_geto (pc := 81) F_10 5 rfl o57 dX10_takeFrom_81 kf_X10_27 ?_
  refine s_rvB (fun r59 => ?_)
  refine s_iconst (pc := 84) 0 dX10_takeFrom_84 kc_0 ?_
  refine s_bipush (pc := 85) 12 dX10_takeFrom_85 kb_12 ?_
  refine s_grd (fun o60 => ?_)
  refine s_grd (fun o61 => ?_)
  refine s_grd (fun g62 => ?_)
  refine s_grd (fun g63 => ?_)
  refine s_copyi (pc := 87) o60 o61 g62 g63 cpyW km_X10_49 (nle rfl) (nle rfl) dX10_takeFrom_87 (fun M64 hM65 => ?_)
  have h66 := le_cI hM65
  have o67 := h66.ok o56
  have o68 := h66.ok o57
  refine s_aload_n (pc := 90) 1 dX10_takeFrom_90 rfl rfl ?_
  refine s_geto (pc := 91) F_10 6 rfl o67 dX10_takeFrom_91 kf_X10_30 ?_
  refine s_rvB (fun r69 => ?_)
  refine s_iconst (pc := 94) 0 dX10_takeFrom_94 kc_0 ?_
  refine s_aload_n (pc := 95) 0 dX10_takeFrom_95 rfl rfl ?_
  refine s_geto (pc := 96) F_10 6 rfl o68 dX10_takeFrom_96 kf_X10_30 ?_
  refine s_rvB (fun r70 => ?_)
  refine s_iconst (pc := 99) 0 dX10_takeFrom_99 kc_0 ?_
  refine s_bipush (pc := 100) 12 dX10_takeFrom_100 kb_12 ?_
  refine s_grd (fun o71 => ?_)
  refine s_grd (fun o72 => ?_)
  refine s_grd (fun g73 => ?_)
  refine s_grd (fun g74 => ?_)
  refine s_copyi (pc := 102) o71 o72 g73 g74 cpyW km_X10_49 (nle rfl) (nle rfl) dX10_takeFrom_102 (fun M75 hM76 => ?_)
  have h77 := le_cI hM76
  have o78 := h77.ok o67
  have o79 := h77.ok o68
  refine s_aload_n (pc := 105) 1 dX10_takeFrom_105 rfl rfl ?_
  refine s_geto (pc := 106) F_10 7 rfl o78 dX10_takeFrom_106 kf_X10_35 ?_
  refine s_rvB (fun r80 => ?_)
  refine s_iconst (pc := 109) 0 dX10_takeFrom_109 kc_0 ?_
  refine s_aload_n (pc := 110) 0 dX10_takeFrom_110 rfl rfl ?_
  refine s_geto (pc := 111) F_10 7 rfl o79 dX10_takeFrom_111 kf_X10_35 ?_
  refine s_rvB (fun r81 => ?_)
  refine s_iconst (pc := 114) 0 dX10_takeFrom_114 kc_0 ?_
  refine s_bipush (pc := 115) 6 dX10_takeFrom_115 kb_6 ?_
  refine s_grd (fun o82 => ?_)
  refine s_grd (fun o83 => ?_)
  refine s_grd (fun g84 => ?_)
  refine s_grd (fun g85 => ?_)
  refine s_grd (fun g86 => ?_)
  refine s_copyr (pc := 117) o82 o83 g84 g85 g86 cpyW km_X10_49 (nle rfl) (nle rfl) dX10_takeFrom_117 (fun M87 hM88 => ?_)
  have h89 := le_cR hM88
  have o90 := h89.ok o78
  have o91 := h89.ok o79
  refine s_aload_n (pc := 120) 0 dX10_takeFrom_120 rfl rfl ?_
  refine s_aload_n (pc := 121) 1 dX10_takeFrom_121 rfl rfl ?_
  refine s_geti (pc := 122) F_10 8 rfl o90 dX10_takeFrom_122 kf_X10_55 ?_
  refine s_puti (pc := 125) F_10 8 rfl o91 rfl rfl rfl dX10_takeFrom_125 kf_X10_55 (fun M92 hM93 => ?_)
  have h94 := le_wI hM93
  have o95 := h94.ok o90
  have o96 := h94.ok o91
  refine s_aload_n (pc := 128) 0 dX10_takeFrom_128 rfl rfl ?_
  refine s_aload_n (pc := 129) 1 dX10_takeFrom_129 rfl rfl ?_
  refine s_geti (pc := 130) F_10 9 rfl o95 dX10_takeFrom_130 kf_X10_58 ?_
  refine s_puti (pc := 133) F_10 9 rfl o96 rfl rfl rfl dX10_takeFrom_133 kf_X10_58 (fun M97 hM98 => ?_)
  have h99 := le_wI hM98
  have o100 := h99.ok o95
  have o101 := h99.ok o96
  refine s_aload_n (pc := 136) 0 dX10_takeFrom_136 rfl rfl ?_
  refine s_aload_n (pc := 137) 1 dX10_takeFrom_137 rfl rfl ?_
  refine s_geti (pc := 138) F_10 10 rfl o100 dX10_takeFrom_138 kf_X10_39 ?_
  refine s_puti (pc := 141) F_10 10 rfl o101 rfl rfl rfl dX10_takeFrom_141 kf_X10_39 (fun M102 hM103 => ?_)
  have h104 := le_wI hM103
  have o105 := h104.ok o100
  have o106 := h104.ok o101
  refine s_aload_n (pc := 144) 0 dX10_takeFrom_144 rfl rfl ?_
  refine s_aload_n (pc := 145) 1 dX10_takeFrom_145 rfl rfl ?_
  refine s_geti (pc := 146) F_10 11 rfl o105 dX10_takeFrom_146 kf_X10_61 ?_
  refine s_puti (pc := 149) F_10 11 rfl o106 rfl rfl rfl dX10_takeFrom_149 kf_X10_61 (fun M107 hM108 => ?_)
  have h109 := le_wI hM108
  have o110 := h109.ok o105
  have o111 := h109.ok o106
  refine s_aload_n (pc := 152) 0 dX10_takeFrom_152 rfl rfl ?_
  refine s_aload_n (pc := 153) 1 dX10_takeFrom_153 rfl rfl ?_
  refine s_geti (pc := 154) F_10 12 rfl o110 dX10_takeFrom_154 kf_X10_64 ?_
  refine s_puti (pc := 157) F_10 12 rfl o111 rfl rfl rfl dX10_takeFrom_157 kf_X10_64 (fun M112 hM113 => ?_)
  have h114 := le_wI hM113
  have o115 := h114.ok o110
  have o116 := h114.ok o111
  refine s_aload_n (pc := 160) 0 dX10_takeFrom_160 rfl rfl ?_
  refine s_bind (fun q117 hq118 => ?_)
  have hC119 := t_X10_touchRules (l := xl X) (G := xG X) hq118
  refine s_callV (pc := 161) (As := []) (st := []) (nlt rfl) (q := (RX10, TX10, 15)) rfl rfl o116 cl_X10_touchRules wi_X10_touchRules wl_X10_touchRules km_X10_67 rfl rfl (nle rfl) (nle rfl) (nle rfl) dX10_takeFrom_161 hC119 ?_
  have h120 := hC119.1 X
  have o121 := h120.ok o115
  have o122 := h120.ok o116
  show S0 X _ q117 164 [some (.ref (gh (xG X) + a0)), some (.ref (gh (xG X) + a1))] [] _
  exact s_vret rfl dX10_takeFrom_164
set_option maxRecDepth 100000 in
set_option maxHeartbeats 8000000 in
noncomputable def f_X11_force (M : Mem) (a0 : Nat) (p1 : Int32) : Option (Mem × Int32) :=
  bv (fun (s2 : Unit) => grd (okO M 11 a0) (Option.bind (f_X11_refuse M a0 (-2)) (fun q6 => some (q6.1, q6.2)))) (fun j1 => if p1 < (-1) then (j1 ()) else (grd (okO M 11 a0) (Option.bind (mR M a0 0) (fun r12 => grd (okO M 10 r12) (if p1 < (mI M r12 9) then (Option.bind (mR M a0 0) (fun r14 => grd (okO M 10 r14) (bv (mI M r14 10 : Int32) (fun x16 => Option.bind (mR M a0 0) (fun r17 => grd (okO M 10 r17) (bv (wI M r17 10 p1) (fun M19 => Option.bind (mR M19 a0 0) (fun r23 => grd (okO M19 10 r23) (Option.bind (f_X10_touchRules M19 r23) (fun q25 => Option.bind (f_X11_accept q25 a0 x16) (fun q30 => some (q30.1, q30.2)))))))))))) else (j1 ()))))))
abbrev Y_X11_force : Sta := (RX11, "force", cX11_force, 3, (some .int), 2)
set_option maxRecDepth 100000 in
set_option maxHeartbeats 8000000 in
theorem t_X11_force {l : Launch} {G : Gh} {M : Mem} {a0 : Nat} {p1 : Int32} {q : Mem × Int32} (h : f_X11_force M a0 p1 = some q) : Ctr l G yX11_force Y_X11_force M [.ref (gh G + a0), .int p1] q.1 (some (.int q.2)) := by
  refine Ctr.of (Y := Y_X11_force) (L := [some (.ref (gh G + a0)), some (.int p1), none]) (t := Option.bind (f_X11_force M a0 p1) (fun q => some (q.1, some (.int q.2)))) (by decide) rfl rfl (nle rfl) (Lof_in 1 _ rfl) (fun X hG hl => ?_) (by rw [h]; rfl)
  subst hG
  subst hl
  unfold f_X11_force
  refine s_iload_n (pc := 0) 1 dX11_force_0 rfl rfl ?_
  refine s_iconst (pc := 1) (-1) dX11_force_1 kc_m1 ?_
  refine s_join M (fun s2 : Unit => M) 16 (fun s2 : Unit => [some (.ref (gh (xG X) + a0)), none, none]) (fun s2 : Unit => []) (fun s2 hs3 => ?_) (fun j1 hj4 => ?_)
  · show S0 X _ M 16 [some (.ref (gh (xG X) + a0)), none, none] [] _
    refine s_aload_n (pc := 16) 0 dX11_force_16 rfl rfl ?_
    refine s_bipush (pc := 17) (-2) dX11_force_17 kb_m2 ?_
    refine s_grd (fun o5 => ?_)
    refine s_bind (fun q6 hq7 => ?_)
    have hC8 := t_X11_refuse (l := xl X) (G := xG X) hq7
    refine s_callV (pc := 19) (As := [.int (-2)]) (st := []) (nlt rfl) (q := (RX11, TX11, 16)) rfl rfl o5 cl_X11_refuse wi_X11_refuse wl_X11_refuse km_X11_97 rfl rfl (nle rfl) (nle rfl) (nle rfl) dX11_force_19 hC8 ?_
    have h9 := hC8.1 X
    have o10 := h9.ok o5
    show S0 X _ q6.1 22 [some (.ref (gh (xG X) + a0)), none, none] [.int q6.2] _
    exact s_iret rfl dX11_force_22
  · refine s_iclt (pc := 2) 16 dX11_force_2 rfl ?_ ?_
    · exact s_drop (hj4 () Le.rf) (And.intro rfl trivial)
    · refine s_iload_n (pc := 5) 1 dX11_force_5 rfl rfl ?_
      refine s_aload_n (pc := 6) 0 dX11_force_6 rfl rfl ?_
      refine s_grd (fun o11 => ?_)
      refine s_geto (pc := 7) F_11 0 rfl o11 dX11_force_7 kf_X11_10 ?_
      refine s_rvB (fun r12 => ?_)
      refine s_grd (fun o13 => ?_)
      refine s_getiN (pc := 10) F_10 9 rfl o13 dX11_force_10 (List.mem_of_getElem? (i := 10) rfl) ?_
      refine s_iclt (pc := 13) 23 dX11_force_13 rfl ?_ ?_
      · refine s_aload_n (pc := 23) 0 dX11_force_23 rfl rfl ?_
        refine s_geto (pc := 24) F_11 0 rfl o11 dX11_force_24 kf_X11_10 ?_
        refine s_rvB (fun r14 => ?_)
        refine s_grd (fun o15 => ?_)
        refine s_getiN (pc := 27) F_10 10 rfl o15 dX11_force_27 (List.mem_of_getElem? (i := 11) rfl) ?_
        refine s_istore_n (pc := 30) 2 dX11_force_30 rfl (nlt rfl) rfl (L' := [some (.ref (gh (xG X) + a0)), some (.int p1), some (.int (mI M r14 10))]) rfl ?_
        refine s_bv (fun x16 : Int32 => [some (.ref (gh (xG X) + a0)), some (.int p1), some (.int x16)]) (fun x16 => ?_) rfl
        refine s_aload_n (pc := 31) 0 dX11_force_31 rfl rfl ?_
        refine s_geto (pc := 32) F_11 0 rfl o11 dX11_force_32 kf_X11_10 ?_
        refine s_rvB (fun r17 => ?_)
        refine s_iload_n (pc := 35) 1 dX11_force_35 rfl rfl ?_
        refine s_grd (fun o18 => ?_)
        refine s_putiN (pc := 36) F_10 10 rfl o18 rfl rfl rfl dX11_force_36 (List.mem_of_getElem? (i := 11) rfl) (fun M19 hM20 => ?_)
        have h21 := le_wI hM20
        have o22 := h21.ok o11
        refine s_aload_n (pc := 39) 0 dX11_force_39 rfl rfl ?_
        refine s_geto (pc := 40) F_11 0 rfl o22 dX11_force_40 kf_X11_10 ?_
        refine s_rvB (fun r23 => ?_)
        refine s_grd (fun o24 => ?_)
        refine s_bind (fun q25 hq26 => ?_)
        have hC27 := t_X10_touchRules (l := xl X) (G := xG X) hq26
        refine s_callV (pc := 43) (As := []) (st := []) (nlt rfl) (q := (RX10, TX10, 15)) rfl rfl o24 cl_X10_touchRules wi_X10_touchRules wl_X10_touchRules km_X11_105 rfl rfl (nle rfl) (nle rfl) (nle rfl) dX11_force_43 hC27 ?_
        have h28 := hC27.1 X
        have o29 := h28.ok o22
        show S0 X _ q25 46 [some (.ref (gh (xG X) + a0)), some (.int p1), some (.int x16)] [] _
        refine s_aload_n (pc := 46) 0 dX11_force_46 rfl rfl ?_
        refine s_iload_n (pc := 47) 2 dX11_force_47 rfl rfl ?_
        refine s_bind (fun q30 hq31 => ?_)
        have hC32 := t_X11_accept (l := xl X) (G := xG X) hq31
        refine s_callV (pc := 48) (As := [.int x16]) (st := []) (nlt rfl) (q := (RX11, TX11, 16)) rfl rfl o29 cl_X11_accept wi_X11_accept wl_X11_accept km_X11_108 rfl rfl (nle rfl) (nle rfl) (nle rfl) dX11_force_48 hC32 ?_
        have h33 := hC32.1 X
        have o34 := h33.ok o29
        show S0 X _ q30.1 51 [some (.ref (gh (xG X) + a0)), some (.int p1), some (.int x16)] [.int q30.2] _
        exact s_iret rfl dX11_force_51
      · exact s_drop (hj4 () Le.rf) (And.intro rfl trivial)
set_option maxRecDepth 100000 in
set_option maxHeartbeats 8000000 in
noncomputable def f_X11_isChange (p0 : Int32) (p1 : Int32) (p2 : Int32) : Option Int32 :=
  if p0 < 0 then (some 0) else (if 4 < p0 then (some 0) else (if p1 < 0 then (some 0) else (if 5 < p1 then (some 0) else (if p0 = 1 then (Option.bind (f_X11_isThing p2) (fun q1 => if q1 = 0 then (some 0) else (some 1))) else (some 1)))))
abbrev Y_X11_isChange : Sta := (RX11, "isChange", cX11_isChange, 3, (some .boolean), 2)
set_option maxRecDepth 100000 in
set_option maxHeartbeats 8000000 in
theorem t_X11_isChange {l : Launch} {G : Gh} {M : Mem} {p0 : Int32} {p1 : Int32} {p2 : Int32} {q : Int32} (h : f_X11_isChange p0 p1 p2 = some q) : Ctr l G yX11_isChange Y_X11_isChange M [.int p0, .int p1, .int p2] M (some (.int q)) := by
  refine Ctr.of (Y := Y_X11_isChange) (L := [some (.int p0), some (.int p1), some (.int p2)]) (t := Option.bind (f_X11_isChange p0 p1 p2) (fun q => some (M, some (.int q)))) (by decide) rfl rfl (nle rfl) (Lof_in 0 _ rfl) (fun X hG hl => ?_) (by rw [h]; rfl)
  subst hG
  subst hl
  unfold f_X11_isChange
  refine s_iload_n (pc := 0) 0 dX11_isChange_0 rfl rfl ?_
  refine s_iflt (pc := 1) 34 dX11_isChange_1 rfl ?_ ?_
  · refine s_iconst (pc := 34) 0 dX11_isChange_34 kc_0 ?_
    exact s_zret rfl rfl dX11_isChange_35
  · refine s_iload_n (pc := 4) 0 dX11_isChange_4 rfl rfl ?_
    refine s_iconst (pc := 5) 4 dX11_isChange_5 kc_4 ?_
    refine s_icgt (pc := 6) 34 dX11_isChange_6 rfl ?_ ?_
    · refine s_iconst (pc := 34) 0 dX11_isChange_34 kc_0 ?_
      exact s_zret rfl rfl dX11_isChange_35
    · refine s_iload_n (pc := 9) 1 dX11_isChange_9 rfl rfl ?_
      refine s_iflt (pc := 10) 34 dX11_isChange_10 rfl ?_ ?_
      · refine s_iconst (pc := 34) 0 dX11_isChange_34 kc_0 ?_
        exact s_zret rfl rfl dX11_isChange_35
      · refine s_iload_n (pc := 13) 1 dX11_isChange_13 rfl rfl ?_
        refine s_iconst (pc := 14) 5 dX11_isChange_14 kc_5 ?_
        refine s_icgt (pc := 15) 34 dX11_isChange_15 rfl ?_ ?_
        · refine s_iconst (pc := 34) 0 dX11_isChange_34 kc_0 ?_
          exact s_zret rfl rfl dX11_isChange_35
        · refine s_iload_n (pc := 18) 0 dX11_isChange_18 rfl rfl ?_
          refine s_iconst (pc := 19) 1 dX11_isChange_19 kc_1 ?_
          refine s_icne (pc := 20) 30 dX11_isChange_20 rfl ?_ ?_
          · refine s_iconst (pc := 30) 1 dX11_isChange_30 kc_1 ?_
            refine s_goto (pc := 31) 35 dX11_isChange_31 rfl ?_
            exact s_zret rfl rfl dX11_isChange_35
          · refine s_iload_n (pc := 23) 2 dX11_isChange_23 rfl rfl ?_
            refine s_bind (fun q1 hq2 => ?_)
            have hC3 := t_X11_isThing (l := xl X) (G := xG X) (M := M) hq2
            refine s_callS (pc := 24) (As := [.int p2]) (st := []) cl_X11_isThing wt_X11_isThing km_X11_89 rfl rfl (nle rfl) (nle rfl) (nle rfl) dX11_isChange_24 hC3 ?_
            show S0 X _ M 27 [some (.int p0), some (.int p1), some (.int p2)] [.int q1] _
            refine s_ifeq (pc := 27) 34 dX11_isChange_27 rfl ?_ ?_
            · refine s_iconst (pc := 34) 0 dX11_isChange_34 kc_0 ?_
              exact s_zret rfl rfl dX11_isChange_35
            · refine s_iconst (pc := 30) 1 dX11_isChange_30 kc_1 ?_
              refine s_goto (pc := 31) 35 dX11_isChange_31 rfl ?_
              exact s_zret rfl rfl dX11_isChange_35
set_option maxRecDepth 100000 in
set_option maxHeartbeats 8000000 in
noncomputable def f_X11_isValueOf (p0 : Int32) (p1 : Int32) (p2 : Int32) : Option Int32 :=
  swO p1 (swC 0 [(28, if p2 < 0 then (some 0) else (if 9 < p2 then (some 0) else (some 1))), (44, if p2 = 0 then (some 1) else (if p2 = 1 then (some 1) else (some 0))), (59, if p2 = (-1) then (some 1) else (Option.bind (f_X11_isThing p2) (fun q1 => if q1 = 0 then (some 0) else (if p2 = p0 then (some 0) else (some 1)))))]) (some 0)
abbrev Y_X11_isValueOf : Sta := (RX11, "isValueOf", cX11_isValueOf, 3, (some .boolean), 2)
set_option maxRecDepth 100000 in
set_option maxHeartbeats 8000000 in
theorem t_X11_isValueOf {l : Launch} {G : Gh} {M : Mem} {p0 : Int32} {p1 : Int32} {p2 : Int32} {q : Int32} (h : f_X11_isValueOf p0 p1 p2 = some q) : Ctr l G yX11_isValueOf Y_X11_isValueOf M [.int p0, .int p1, .int p2] M (some (.int q)) := by
  refine Ctr.of (Y := Y_X11_isValueOf) (L := [some (.int p0), some (.int p1), some (.int p2)]) (t := Option.bind (f_X11_isValueOf p0 p1 p2) (fun q => some (M, some (.int q)))) (by decide) rfl rfl (nle rfl) (Lof_in 0 _ rfl) (fun X hG hl => ?_) (by rw [h]; rfl)
  subst hG
  subst hl
  unfold f_X11_isValueOf
  refine s_iload_n (pc := 0) 1 dX11_isValueOf_0 rfl rfl ?_
  refine s_tsw (pc := 1) _ 82 dX11_isValueOf_1 rfl rfl (And.intro (by decide) (And.intro (by simp only [List.length_cons, List.length_nil]; decide) rfl)) ?_ ?_
  · refine (And.intro ?_ (And.intro ?_ (And.intro ?_ trivial)))
    · dsimp only
      refine s_iload_n (pc := 28) 2 dX11_isValueOf_28 rfl rfl ?_
      refine s_iflt (pc := 29) 42 dX11_isValueOf_29 rfl ?_ ?_
      · refine s_iconst (pc := 42) 0 dX11_isValueOf_42 kc_0 ?_
        exact s_zret rfl rfl dX11_isValueOf_43
      · refine s_iload_n (pc := 32) 2 dX11_isValueOf_32 rfl rfl ?_
        refine s_bipush (pc := 33) 9 dX11_isValueOf_33 kb_9 ?_
        refine s_icgt (pc := 35) 42 dX11_isValueOf_35 rfl ?_ ?_
        · refine s_iconst (pc := 42) 0 dX11_isValueOf_42 kc_0 ?_
          exact s_zret rfl rfl dX11_isValueOf_43
        · refine s_iconst (pc := 38) 1 dX11_isValueOf_38 kc_1 ?_
          refine s_goto (pc := 39) 43 dX11_isValueOf_39 rfl ?_
          exact s_zret rfl rfl dX11_isValueOf_43
    · dsimp only
      refine s_iload_n (pc := 44) 2 dX11_isValueOf_44 rfl rfl ?_
      refine s_ifeq (pc := 45) 53 dX11_isValueOf_45 rfl ?_ ?_
      · refine s_iconst (pc := 53) 1 dX11_isValueOf_53 kc_1 ?_
        refine s_goto (pc := 54) 58 dX11_isValueOf_54 rfl ?_
        exact s_zret rfl rfl dX11_isValueOf_58
      · refine s_iload_n (pc := 48) 2 dX11_isValueOf_48 rfl rfl ?_
        refine s_iconst (pc := 49) 1 dX11_isValueOf_49 kc_1 ?_
        refine s_icne (pc := 50) 57 dX11_isValueOf_50 rfl ?_ ?_
        · refine s_iconst (pc := 57) 0 dX11_isValueOf_57 kc_0 ?_
          exact s_zret rfl rfl dX11_isValueOf_58
        · refine s_iconst (pc := 53) 1 dX11_isValueOf_53 kc_1 ?_
          refine s_goto (pc := 54) 58 dX11_isValueOf_54 rfl ?_
          exact s_zret rfl rfl dX11_isValueOf_58
    · dsimp only
      refine s_iload_n (pc := 59) 2 dX11_isValueOf_59 rfl rfl ?_
      refine s_iconst (pc := 60) (-1) dX11_isValueOf_60 kc_m1 ?_
      refine s_iceq (pc := 61) 76 dX11_isValueOf_61 rfl ?_ ?_
      · refine s_iconst (pc := 76) 1 dX11_isValueOf_76 kc_1 ?_
        refine s_goto (pc := 77) 81 dX11_isValueOf_77 rfl ?_
        exact s_zret rfl rfl dX11_isValueOf_81
      · refine s_iload_n (pc := 64) 2 dX11_isValueOf_64 rfl rfl ?_
        refine s_bind (fun q1 hq2 => ?_)
        have hC3 := t_X11_isThing (l := xl X) (G := xG X) (M := M) hq2
        refine s_callS (pc := 65) (As := [.int p2]) (st := []) cl_X11_isThing wt_X11_isThing km_X11_89 rfl rfl (nle rfl) (nle rfl) (nle rfl) dX11_isValueOf_65 hC3 ?_
        show S0 X _ M 68 [some (.int p0), some (.int p1), some (.int p2)] [.int q1] _
        refine s_ifeq (pc := 68) 80 dX11_isValueOf_68 rfl ?_ ?_
        · refine s_iconst (pc := 80) 0 dX11_isValueOf_80 kc_0 ?_
          exact s_zret rfl rfl dX11_isValueOf_81
        · refine s_iload_n (pc := 71) 2 dX11_isValueOf_71 rfl rfl ?_
          refine s_iload_n (pc := 72) 0 dX11_isValueOf_72 rfl rfl ?_
          refine s_iceq (pc := 73) 80 dX11_isValueOf_73 rfl ?_ ?_
          · refine s_iconst (pc := 80) 0 dX11_isValueOf_80 kc_0 ?_
            exact s_zret rfl rfl dX11_isValueOf_81
          · refine s_iconst (pc := 76) 1 dX11_isValueOf_76 kc_1 ?_
            refine s_goto (pc := 77) 81 dX11_isValueOf_77 rfl ?_
            exact s_zret rfl rfl dX11_isValueOf_81
  · refine s_iconst (pc := 82) 0 dX11_isValueOf_82 kc_0 ?_
    exact s_zret rfl rfl dX11_isValueOf_83
set_option maxRecDepth 100000 in
set_option maxHeartbeats 8000000 in
noncomputable def f_X11_of (M : Mem) (a0 : Nat) (p1 : Int32) (p2 : Int32) : Option Int32 :=
  Option.bind (f_X11_isThing p1) (fun q1 => if q1 = 0 then (some (-1)) else (if p2 < 0 then (some (-1)) else (if p2 ≤ 2 then (grd (okO M 11 a0) (Option.bind (mR M a0 0) (fun r5 => grd (okO M 10 r5) (Option.bind (f_X10_thingRow M r5 p2) (fun q7 => grd (okO M 14 q7) (grd (vp_in p1 (mL M q7)) (some (mI M q7 p1.toNatClampNeg)))))))) else (some (-1)))))
abbrev Y_X11_of : Sta := (RX11, "of", cX11_of, 3, (some .int), 2)
set_option maxRecDepth 100000 in
set_option maxHeartbeats 8000000 in
theorem t_X11_of {l : Launch} {G : Gh} {M : Mem} {a0 : Nat} {p1 : Int32} {p2 : Int32} {q : Int32} (h : f_X11_of M a0 p1 p2 = some q) : Ctr l G yX11_of Y_X11_of M [.ref (gh G + a0), .int p1, .int p2] M (some (.int q)) := by
  refine Ctr.of (Y := Y_X11_of) (L := [some (.ref (gh G + a0)), some (.int p1), some (.int p2)]) (t := Option.bind (f_X11_of M a0 p1 p2) (fun q => some (M, some (.int q)))) (by decide) rfl rfl (nle rfl) (Lof_in 0 _ rfl) (fun X hG hl => ?_) (by rw [h]; rfl)
  subst hG
  subst hl
  unfold f_X11_of
  refine s_iload_n (pc := 0) 1 dX11_of_0 rfl rfl ?_
  refine s_bind (fun q1 hq2 => ?_)
  have hC3 := t_X11_isThing (l := xl X) (G := xG X) (M := M) hq2
  refine s_callS (pc := 1) (As := [.int p1]) (st := []) cl_X11_isThing wt_X11_isThing km_X11_89 rfl rfl (nle rfl) (nle rfl) (nle rfl) dX11_of_1 hC3 ?_
  show S0 X _ M 4 [some (.ref (gh (xG X) + a0)), some (.int p1), some (.int p2)] [.int q1] _
  refine s_ifeq (pc := 4) 16 dX11_of_4 rfl ?_ ?_
  · refine s_iconst (pc := 16) (-1) dX11_of_16 kc_m1 ?_
    exact s_iret rfl dX11_of_17
  · refine s_iload_n (pc := 7) 2 dX11_of_7 rfl rfl ?_
    refine s_iflt (pc := 8) 16 dX11_of_8 rfl ?_ ?_
    · refine s_iconst (pc := 16) (-1) dX11_of_16 kc_m1 ?_
      exact s_iret rfl dX11_of_17
    · refine s_iload_n (pc := 11) 2 dX11_of_11 rfl rfl ?_
      refine s_iconst (pc := 12) 2 dX11_of_12 kc_2 ?_
      refine s_icle (pc := 13) 18 dX11_of_13 rfl ?_ ?_
      · refine s_aload_n (pc := 18) 0 dX11_of_18 rfl rfl ?_
        refine s_grd (fun o4 => ?_)
        refine s_geto (pc := 19) F_11 0 rfl o4 dX11_of_19 kf_X11_10 ?_
        refine s_rvB (fun r5 => ?_)
        refine s_iload_n (pc := 22) 2 dX11_of_22 rfl rfl ?_
        refine s_grd (fun o6 => ?_)
        refine s_bind (fun q7 hq8 => ?_)
        have hC9 := t_X10_thingRow (l := xl X) (G := xG X) hq8
        refine s_callV (pc := 23) (As := [.int p2]) (st := []) (nlt rfl) (q := (RX10, TX10, 15)) rfl rfl o6 cl_X10_thingRow wi_X10_thingRow wl_X10_thingRow km_X11_101 rfl rfl (nle rfl) (nle rfl) (nle rfl) dX11_of_23 hC9 ?_
        show S0 X _ M 26 [some (.ref (gh (xG X) + a0)), some (.int p1), some (.int p2)] [.ref (gh (xG X) + q7)] _
        refine s_iload_n (pc := 26) 1 dX11_of_26 rfl rfl ?_
        refine s_grd (fun o10 => ?_)
        refine s_grd (fun i11 => ?_)
        refine s_iald (pc := 27) o10 i11 dX11_of_27 ?_
        exact s_iret rfl dX11_of_28
      · refine s_iconst (pc := 16) (-1) dX11_of_16 kc_m1 ?_
        exact s_iret rfl dX11_of_17
set_option maxRecDepth 100000 in
set_option maxHeartbeats 8000000 in
noncomputable def f_X11_settle (M : Mem) (a0 : Nat) (p1 : Int32) : Option (Mem × Int32) :=
  if 0 ≤ p1 then (grd (okO M 11 a0) (Option.bind (f_X11_accept M a0 p1) (fun q2 => some (q2.1, q2.2)))) else (grd (okO M 11 a0) (Option.bind (f_X11_refuse M a0 p1) (fun q8 => some (q8.1, q8.2))))
abbrev Y_X11_settle : Sta := (RX11, "settle", cX11_settle, 2, (some .int), 2)
set_option maxRecDepth 100000 in
set_option maxHeartbeats 8000000 in
theorem t_X11_settle {l : Launch} {G : Gh} {M : Mem} {a0 : Nat} {p1 : Int32} {q : Mem × Int32} (h : f_X11_settle M a0 p1 = some q) : Ctr l G yX11_settle Y_X11_settle M [.ref (gh G + a0), .int p1] q.1 (some (.int q.2)) := by
  refine Ctr.of (Y := Y_X11_settle) (L := [some (.ref (gh G + a0)), some (.int p1)]) (t := Option.bind (f_X11_settle M a0 p1) (fun q => some (q.1, some (.int q.2)))) (by decide) rfl rfl (nle rfl) (Lof_in 0 _ rfl) (fun X hG hl => ?_) (by rw [h]; rfl)
  subst hG
  subst hl
  unfold f_X11_settle
  refine s_iload_n (pc := 0) 1 dX11_settle_0 rfl rfl ?_
  refine s_ifge (pc := 1) 12 dX11_settle_1 rfl ?_ ?_
  · refine s_aload_n (pc := 12) 0 dX11_settle_12 rfl rfl ?_
    refine s_iload_n (pc := 13) 1 dX11_settle_13 rfl rfl ?_
    refine s_grd (fun o1 => ?_)
    refine s_bind (fun q2 hq3 => ?_)
    have hC4 := t_X11_accept (l := xl X) (G := xG X) hq3
    refine s_callV (pc := 14) (As := [.int p1]) (st := []) (nlt rfl) (q := (RX11, TX11, 16)) rfl rfl o1 cl_X11_accept wi_X11_accept wl_X11_accept km_X11_108 rfl rfl (nle rfl) (nle rfl) (nle rfl) dX11_settle_14 hC4 ?_
    have h5 := hC4.1 X
    have o6 := h5.ok o1
    show S0 X _ q2.1 17 [some (.ref (gh (xG X) + a0)), some (.int p1)] [.int q2.2] _
    exact s_iret rfl dX11_settle_17
  · refine s_aload_n (pc := 4) 0 dX11_settle_4 rfl rfl ?_
    refine s_iload_n (pc := 5) 1 dX11_settle_5 rfl rfl ?_
    refine s_grd (fun o7 => ?_)
    refine s_bind (fun q8 hq9 => ?_)
    have hC10 := t_X11_refuse (l := xl X) (G := xG X) hq9
    refine s_callV (pc := 6) (As := [.int p1]) (st := []) (nlt rfl) (q := (RX11, TX11, 16)) rfl rfl o7 cl_X11_refuse wi_X11_refuse wl_X11_refuse km_X11_97 rfl rfl (nle rfl) (nle rfl) (nle rfl) dX11_settle_6 hC10 ?_
    have h11 := hC10.1 X
    have o12 := h11.ok o7
    show S0 X _ q8.1 9 [some (.ref (gh (xG X) + a0)), some (.int p1)] [.int q8.2] _
    refine s_goto (pc := 9) 17 dX11_settle_9 rfl ?_
    exact s_iret rfl dX11_settle_17
set_option maxRecDepth 100000 in
set_option maxHeartbeats 8000000 in
noncomputable def f_X11_tellHouse (M : Mem) (a0 : Nat) (p1 : Int32) : Option Mem :=
  grd (okO M 11 a0) (Option.bind (mR M a0 0) (fun r2 => grd (okO M 10 r2) (Option.bind (f_X10_hasHouse M r2 p1) (fun q4 => if q4 = 0 then (some M) else (Option.bind (mR M a0 3) (fun r7 => grd (okO M 3 r7) (Option.bind (mR M r7 0) (fun r9 => Option.bind (mR M a0 0) (fun r10 => grd (okO M 10 r10) (Option.bind (mR M r10 5) (fun r12 => grd (okO M 14 r12) (grd (vp_in p1 (mL M r12)) (Option.bind (f_X6_lengthOf (mI M r12 p1.toNatClampNeg)) (fun q15 => grd (okO M 14 r9) (grd (vp_in (4 + p1) (mL M r9)) (bv (wI M r9 (4 + p1).toNatClampNeg q15) (fun M20 => Option.bind (loopO (σ := Mem × Int32) (ρ := Mem) (fun s24 => if 6 ≤ s24.2 then (some (.inr s24.1)) else (Option.bind (mR s24.1 a0 3) (fun r33 => grd (okO s24.1 3 r33) (Option.bind (mR s24.1 r33 0) (fun r35 => Option.bind (mR s24.1 a0 0) (fun r36 => grd (okO s24.1 10 r36) (Option.bind (f_X10_holds s24.1 r36 p1 s24.2) (fun q38 => grd (okO s24.1 14 r35) (grd (vp_in ((16 + (p1 * 6)) + s24.2) (mL s24.1 r35)) (bv (wI s24.1 r35 ((16 + (p1 * 6)) + s24.2).toNatClampNeg q38) (fun M43 => bv (s24.2 + 1 : Int32) (fun x47 => some (.inl (M43, x47)))))))))))))) (M20, 0)) (fun (x31 : Mem) => some x31))))))))))))))))))
abbrev Y_X11_tellHouse : Sta := (RX11, "tellHouse", cX11_tellHouse, 3, none, 2)
set_option maxRecDepth 100000 in
set_option maxHeartbeats 8000000 in
theorem t_X11_tellHouse {l : Launch} {G : Gh} {M : Mem} {a0 : Nat} {p1 : Int32} {q : Mem} (h : f_X11_tellHouse M a0 p1 = some q) : Ctr l G yX11_tellHouse Y_X11_tellHouse M [.ref (gh G + a0), .int p1] q (none) := by
  refine Ctr.of (Y := Y_X11_tellHouse) (L := [some (.ref (gh G + a0)), some (.int p1), none]) (t := Option.bind (f_X11_tellHouse M a0 p1) (fun q => some (q, (none : Option Value)))) (by decide) rfl rfl (nle rfl) (Lof_in 1 _ rfl) (fun X hG hl => ?_) (by rw [h]; rfl)
  subst hG
  subst hl
  unfold f_X11_tellHouse
  refine s_aload_n (pc := 0) 0 dX11_tellHouse_0 rfl rfl ?_
  refine s_grd (fun o1 => ?_)
  refine s_geto (pc := 1) F_11 0 rfl o1 dX11_tellHouse_1 kf_X11_10 ?_
  refine s_rvB (fun r2 => ?_)
  refine s_iload_n (pc := 4) 1 dX11_tellHouse_4 rfl rfl ?_
  refine s_grd (fun o3 => ?_)
  refine s_bind (fun q4 hq5 => ?_)
  have hC6 := t_X10_hasHouse (l := xl X) (G := xG X) hq5
  refine s_callV (pc := 5) (As := [.int p1]) (st := []) (nlt rfl) (q := (RX10, TX10, 15)) rfl rfl o3 cl_X10_hasHouse wi_X10_hasHouse wl_X10_hasHouse km_X11_119 rfl rfl (nle rfl) (nle rfl) (nle rfl) dX11_tellHouse_5 hC6 ?_
  show S0 X _ M 8 [some (.ref (gh (xG X) + a0)), some (.int p1), none] [.int q4] _
  refine s_ifne (pc := 8) 12 dX11_tellHouse_8 rfl ?_ ?_
  · refine s_aload_n (pc := 12) 0 dX11_tellHouse_12 rfl rfl ?_
    refine s_geto (pc := 13) F_11 3 rfl o1 dX11_tellHouse_13 kf_X11_30 ?_
    refine s_rvB (fun r7 => ?_)
    refine s_grd (fun o8 => ?_)
    refine s_geto (pc := 16) F_3 0 rfl o8 dX11_tellHouse_16 kf_X11_224 ?_
    refine s_rvB (fun r9 => ?_)
    refine s_iconst (pc := 19) 4 dX11_tellHouse_19 kc_4 ?_
    refine s_iload_n (pc := 20) 1 dX11_tellHouse_20 rfl rfl ?_
    refine s_iadd (pc := 21) dX11_tellHouse_21 ?_
    refine s_aload_n (pc := 22) 0 dX11_tellHouse_22 rfl rfl ?_
    refine s_geto (pc := 23) F_11 0 rfl o1 dX11_tellHouse_23 kf_X11_10 ?_
    refine s_rvB (fun r10 => ?_)
    refine s_grd (fun o11 => ?_)
    refine s_getoN (pc := 26) F_10 5 rfl o11 dX11_tellHouse_26 (List.mem_of_getElem? (i := 7) rfl) ?_
    refine s_rvB (fun r12 => ?_)
    refine s_iload_n (pc := 29) 1 dX11_tellHouse_29 rfl rfl ?_
    refine s_grd (fun o13 => ?_)
    refine s_grd (fun i14 => ?_)
    refine s_iald (pc := 30) o13 i14 dX11_tellHouse_30 ?_
    refine s_bind (fun q15 hq16 => ?_)
    have hC17 := t_X6_lengthOf (l := xl X) (G := xG X) (M := M) hq16
    refine s_callS (pc := 31) (As := [.int (mI M r12 p1.toNatClampNeg)]) (st := [.int (4 + p1), .ref (gh (xG X) + r9)]) cl_X6_lengthOf wt_X6_lengthOf km_X11_380 rfl rfl (nle rfl) (nle rfl) (nle rfl) dX11_tellHouse_31 hC17 ?_
    show S0 X _ M 34 [some (.ref (gh (xG X) + a0)), some (.int p1), none] [.int q15, .int (4 + p1), .ref (gh (xG X) + r9)] _
    refine s_grd (fun o18 => ?_)
    refine s_grd (fun i19 => ?_)
    refine s_iast (pc := 34) o18 i19 dX11_tellHouse_34 (fun M20 hM21 => ?_)
    have h22 := le_wI hM21
    have o23 := h22.ok o1
    refine s_iconst (pc := 35) 0 dX11_tellHouse_35 kc_0 ?_
    refine s_istore_n (pc := 36) 2 dX11_tellHouse_36 rfl (nlt rfl) rfl (L' := [some (.ref (gh (xG X) + a0)), some (.int p1), some (.int 0)]) rfl ?_
    refine s_drop (L' := [some (.ref (gh (xG X) + a0)), some (.int p1), some (.int 0)]) ?_ (And.intro rfl (And.intro rfl (And.intro rfl trivial)))
    refine s_loop1 M20 (fun s24 : Mem × Int32 => s24.1) (fun s24 : Mem × Int32 => [some (.ref (gh (xG X) + a0)), some (.int p1), some (.int s24.2)]) (fun x31 : Mem => x31) 75 (fun x31 : Mem => [none, none, none]) (fun x31 hx32 => ?_) (fun T26 R28 hT27 hR29 s24 hs25 => ?_) (M20, 0) Le.rf
    · show S0 X _ x31 75 [none, none, none] [] _
      exact s_vret rfl dX11_tellHouse_75
    · show S0 X _ s24.1 37 [some (.ref (gh (xG X) + a0)), some (.int p1), some (.int s24.2)] [] _
      have o30 := hs25.ok o23
      refine s_iload_n (pc := 37) 2 dX11_tellHouse_37 rfl rfl ?_
      refine s_bipush (pc := 38) 6 dX11_tellHouse_38 kb_6 ?_
      refine s_icge (pc := 40) 75 dX11_tellHouse_40 rfl ?_ ?_
      · exact s_drop (hR29 s24.1 hs25) trivial
      · refine s_aload_n (pc := 43) 0 dX11_tellHouse_43 rfl rfl ?_
        refine s_geto (pc := 44) F_11 3 rfl o30 dX11_tellHouse_44 kf_X11_30 ?_
        refine s_rvB (fun r33 => ?_)
        refine s_grd (fun o34 => ?_)
        refine s_geto (pc := 47) F_3 0 rfl o34 dX11_tellHouse_47 kf_X11_224 ?_
        refine s_rvB (fun r35 => ?_)
        refine s_bipush (pc := 50) 16 dX11_tellHouse_50 kb_16 ?_
        refine s_iload_n (pc := 52) 1 dX11_tellHouse_52 rfl rfl ?_
        refine s_bipush (pc := 53) 6 dX11_tellHouse_53 kb_6 ?_
        refine s_imul (pc := 55) dX11_tellHouse_55 ?_
        refine s_iadd (pc := 56) dX11_tellHouse_56 ?_
        refine s_iload_n (pc := 57) 2 dX11_tellHouse_57 rfl rfl ?_
        refine s_iadd (pc := 58) dX11_tellHouse_58 ?_
        refine s_aload_n (pc := 59) 0 dX11_tellHouse_59 rfl rfl ?_
        refine s_geto (pc := 60) F_11 0 rfl o30 dX11_tellHouse_60 kf_X11_10 ?_
        refine s_rvB (fun r36 => ?_)
        refine s_iload_n (pc := 63) 1 dX11_tellHouse_63 rfl rfl ?_
        refine s_iload_n (pc := 64) 2 dX11_tellHouse_64 rfl rfl ?_
        refine s_grd (fun o37 => ?_)
        refine s_bind (fun q38 hq39 => ?_)
        have hC40 := t_X10_holds (l := xl X) (G := xG X) hq39
        refine s_callV (pc := 65) (As := [.int p1, .int s24.2]) (st := [.int ((16 + (p1 * 6)) + s24.2), .ref (gh (xG X) + r35)]) (nlt rfl) (q := (RX10, TX10, 15)) rfl rfl o37 cl_X10_holds wi_X10_holds wl_X10_holds km_X11_337 rfl rfl (nle rfl) (nle rfl) (nle rfl) dX11_tellHouse_65 hC40 ?_
        show S0 X _ s24.1 68 [some (.ref (gh (xG X) + a0)), some (.int p1), some (.int s24.2)] [.int q38, .int ((16 + (p1 * 6)) + s24.2), .ref (gh (xG X) + r35)] _
        refine s_grd (fun o41 => ?_)
        refine s_grd (fun i42 => ?_)
        refine s_iast (pc := 68) o41 i42 dX11_tellHouse_68 (fun M43 hM44 => ?_)
        have h45 := le_wI hM44
        have o46 := h45.ok o30
        refine s_iinc (pc := 69) dX11_tellHouse_69 rfl (v := s24.2 + 1) (congrArg (fun z : Int32 => s24.2 + z) kc_1) (nlt rfl) rfl (L' := [some (.ref (gh (xG X) + a0)), some (.int p1), some (.int (s24.2 + 1))]) rfl ?_
        refine s_bv (fun x47 : Int32 => [some (.ref (gh (xG X) + a0)), some (.int p1), some (.int x47)]) (fun x47 => ?_) rfl
        refine s_goto (pc := 72) 37 dX11_tellHouse_72 rfl ?_
        exact s_drop (hT27 (M43, x47) (hs25.tr h45)) (And.intro rfl (And.intro rfl (And.intro rfl trivial)))
  · exact s_vret rfl dX11_tellHouse_11
set_option maxRecDepth 100000 in
set_option maxHeartbeats 8000000 in
noncomputable def f_X11_terms (M : Mem) (a0 : Nat) (p1 : Int32) (p2 : Int32) : Option (Mem × Int32) :=
  bv (fun (s2 : Unit) => bv (fun (s6 : Unit) => grd (okO M 11 a0) (Option.bind (f_X11_refuse M a0 (-1)) (fun q10 => some (q10.1, q10.2)))) (fun j5 => if p1 = 1 then (if p2 < 0 then (j5 ()) else (if 9 < p2 then (j5 ()) else (grd (okO M 11 a0) (Option.bind (mR M a0 0) (fun r16 => grd (okO M 10 r16) (bv (mI M r16 12 : Int32) (fun x18 => Option.bind (mR M a0 0) (fun r19 => grd (okO M 10 r19) (bv (wI M r19 12 p2) (fun M21 => Option.bind (mR M21 a0 0) (fun r25 => grd (okO M21 10 r25) (Option.bind (f_X10_touchRules M21 r25) (fun q27 => Option.bind (f_X11_accept q27 a0 x18) (fun q32 => some (q32.1, q32.2))))))))))))))) else (j5 ()))) (fun j1 => if p1 = 0 then (Option.bind (f_X11_isYear p2) (fun q37 => if q37 = 0 then (j1 ()) else (grd (okO M 11 a0) (Option.bind (mR M a0 0) (fun r41 => grd (okO M 10 r41) (bv (mI M r41 11 : Int32) (fun x43 => Option.bind (mR M a0 0) (fun r44 => grd (okO M 10 r44) (Option.bind (f_X10_turnTo M r44 p2) (fun q46 => Option.bind (f_X11_accept q46 a0 x43) (fun q51 => some (q51.1, q51.2)))))))))))) else (j1 ()))
abbrev Y_X11_terms : Sta := (RX11, "terms", cX11_terms, 4, (some .int), 2)
set_option maxRecDepth 100000 in
set_option maxHeartbeats 8000000 in
theorem t_X11_terms {l : Launch} {G : Gh} {M : Mem} {a0 : Nat} {p1 : Int32} {p2 : Int32} {q : Mem × Int32} (h : f_X11_terms M a0 p1 p2 = some q) : Ctr l G yX11_terms Y_X11_terms M [.ref (gh G + a0), .int p1, .int p2] q.1 (some (.int q.2)) := by
  refine Ctr.of (Y := Y_X11_terms) (L := [some (.ref (gh G + a0)), some (.int p1), some (.int p2), none]) (t := Option.bind (f_X11_terms M a0 p1 p2) (fun q => some (q.1, some (.int q.2)))) (by decide) rfl rfl (nle rfl) (Lof_in 1 _ rfl) (fun X hG hl => ?_) (by rw [h]; rfl)
  subst hG
  subst hl
  unfold f_X11_terms
  refine s_iload_n (pc := 0) 1 dX11_terms_0 rfl rfl ?_
  refine s_join M (fun s2 : Unit => M) 33 (fun s2 : Unit => [some (.ref (gh (xG X) + a0)), some (.int p1), some (.int p2), none]) (fun s2 : Unit => []) (fun s2 hs3 => ?_) (fun j1 hj4 => ?_)
  · show S0 X _ M 33 [some (.ref (gh (xG X) + a0)), some (.int p1), some (.int p2), none] [] _
    refine s_iload_n (pc := 33) 1 dX11_terms_33 rfl rfl ?_
    refine s_iconst (pc := 34) 1 dX11_terms_34 kc_1 ?_
    refine s_join M (fun s6 : Unit => M) 77 (fun s6 : Unit => [some (.ref (gh (xG X) + a0)), none, none, none]) (fun s6 : Unit => []) (fun s6 hs7 => ?_) (fun j5 hj8 => ?_)
    · show S0 X _ M 77 [some (.ref (gh (xG X) + a0)), none, none, none] [] _
      refine s_aload_n (pc := 77) 0 dX11_terms_77 rfl rfl ?_
      refine s_iconst (pc := 78) (-1) dX11_terms_78 kc_m1 ?_
      refine s_grd (fun o9 => ?_)
      refine s_bind (fun q10 hq11 => ?_)
      have hC12 := t_X11_refuse (l := xl X) (G := xG X) hq11
      refine s_callV (pc := 79) (As := [.int (-1)]) (st := []) (nlt rfl) (q := (RX11, TX11, 16)) rfl rfl o9 cl_X11_refuse wi_X11_refuse wl_X11_refuse km_X11_97 rfl rfl (nle rfl) (nle rfl) (nle rfl) dX11_terms_79 hC12 ?_
      have h13 := hC12.1 X
      have o14 := h13.ok o9
      show S0 X _ q10.1 82 [some (.ref (gh (xG X) + a0)), none, none, none] [.int q10.2] _
      exact s_iret rfl dX11_terms_82
    · refine s_icne (pc := 35) 77 dX11_terms_35 rfl ?_ ?_
      · exact s_drop (hj8 () Le.rf) (And.intro rfl trivial)
      · refine s_iload_n (pc := 38) 2 dX11_terms_38 rfl rfl ?_
        refine s_iflt (pc := 39) 77 dX11_terms_39 rfl ?_ ?_
        · exact s_drop (hj8 () Le.rf) (And.intro rfl trivial)
        · refine s_iload_n (pc := 42) 2 dX11_terms_42 rfl rfl ?_
          refine s_bipush (pc := 43) 9 dX11_terms_43 kb_9 ?_
          refine s_icgt (pc := 45) 77 dX11_terms_45 rfl ?_ ?_
          · exact s_drop (hj8 () Le.rf) (And.intro rfl trivial)
          · refine s_aload_n (pc := 48) 0 dX11_terms_48 rfl rfl ?_
            refine s_grd (fun o15 => ?_)
            refine s_geto (pc := 49) F_11 0 rfl o15 dX11_terms_49 kf_X11_10 ?_
            refine s_rvB (fun r16 => ?_)
            refine s_grd (fun o17 => ?_)
            refine s_getiN (pc := 52) F_10 12 rfl o17 dX11_terms_52 (List.mem_of_getElem? (i := 16) rfl) ?_
            refine s_istore_n (pc := 55) 3 dX11_terms_55 rfl (nlt rfl) rfl (L' := [some (.ref (gh (xG X) + a0)), some (.int p1), some (.int p2), some (.int (mI M r16 12))]) rfl ?_
            refine s_bv (fun x18 : Int32 => [some (.ref (gh (xG X) + a0)), some (.int p1), some (.int p2), some (.int x18)]) (fun x18 => ?_) rfl
            refine s_aload_n (pc := 56) 0 dX11_terms_56 rfl rfl ?_
            refine s_geto (pc := 57) F_11 0 rfl o15 dX11_terms_57 kf_X11_10 ?_
            refine s_rvB (fun r19 => ?_)
            refine s_iload_n (pc := 60) 2 dX11_terms_60 rfl rfl ?_
            refine s_grd (fun o20 => ?_)
            refine s_putiN (pc := 61) F_10 12 rfl o20 rfl rfl rfl dX11_terms_61 (List.mem_of_getElem? (i := 16) rfl) (fun M21 hM22 => ?_)
            have h23 := le_wI hM22
            have o24 := h23.ok o15
            refine s_aload_n (pc := 64) 0 dX11_terms_64 rfl rfl ?_
            refine s_geto (pc := 65) F_11 0 rfl o24 dX11_terms_65 kf_X11_10 ?_
            refine s_rvB (fun r25 => ?_)
            refine s_grd (fun o26 => ?_)
            refine s_bind (fun q27 hq28 => ?_)
            have hC29 := t_X10_touchRules (l := xl X) (G := xG X) hq28
            refine s_callV (pc := 68) (As := []) (st := []) (nlt rfl) (q := (RX10, TX10, 15)) rfl rfl o26 cl_X10_touchRules wi_X10_touchRules wl_X10_touchRules km_X11_105 rfl rfl (nle rfl) (nle rfl) (nle rfl) dX11_terms_68 hC29 ?_
            have h30 := hC29.1 X
            have o31 := h30.ok o24
            show S0 X _ q27 71 [some (.ref (gh (xG X) + a0)), some (.int p1), some (.int p2), some (.int x18)] [] _
            refine s_aload_n (pc := 71) 0 dX11_terms_71 rfl rfl ?_
            refine s_iload_n (pc := 72) 3 dX11_terms_72 rfl rfl ?_
            refine s_bind (fun q32 hq33 => ?_)
            have hC34 := t_X11_accept (l := xl X) (G := xG X) hq33
            refine s_callV (pc := 73) (As := [.int x18]) (st := []) (nlt rfl) (q := (RX11, TX11, 16)) rfl rfl o31 cl_X11_accept wi_X11_accept wl_X11_accept km_X11_108 rfl rfl (nle rfl) (nle rfl) (nle rfl) dX11_terms_73 hC34 ?_
            have h35 := hC34.1 X
            have o36 := h35.ok o31
            show S0 X _ q32.1 76 [some (.ref (gh (xG X) + a0)), some (.int p1), some (.int p2), some (.int x18)] [.int q32.2] _
            exact s_iret rfl dX11_terms_76
  · refine s_ifne (pc := 1) 33 dX11_terms_1 rfl ?_ ?_
    · exact s_drop (hj4 () Le.rf) (And.intro rfl (And.intro rfl (And.intro rfl trivial)))
    · refine s_iload_n (pc := 4) 2 dX11_terms_4 rfl rfl ?_
      refine s_bind (fun q37 hq38 => ?_)
      have hC39 := t_X11_isYear (l := xl X) (G := xG X) (M := M) hq38
      refine s_callS (pc := 5) (As := [.int p2]) (st := []) cl_X11_isYear wt_X11_isYear km_X11_116 rfl rfl (nle rfl) (nle rfl) (nle rfl) dX11_terms_5 hC39 ?_
      show S0 X _ M 8 [some (.ref (gh (xG X) + a0)), some (.int p1), some (.int p2), none] [.int q37] _
      refine s_ifeq (pc := 8) 33 dX11_terms_8 rfl ?_ ?_
      · exact s_drop (hj4 () Le.rf) (And.intro rfl (And.intro rfl (And.intro rfl trivial)))
      · refine s_aload_n (pc := 11) 0 dX11_terms_11 rfl rfl ?_
        refine s_grd (fun o40 => ?_)
        refine s_geto (pc := 12) F_11 0 rfl o40 dX11_terms_12 kf_X11_10 ?_
        refine s_rvB (fun r41 => ?_)
        refine s_grd (fun o42 => ?_)
        refine s_getiN (pc := 15) F_10 11 rfl o42 dX11_terms_15 (List.mem_of_getElem? (i := 14) rfl) ?_
        refine s_istore_n (pc := 18) 3 dX11_terms_18 rfl (nlt rfl) rfl (L' := [some (.ref (gh (xG X) + a0)), some (.int p1), some (.int p2), some (.int (mI M r41 11))]) rfl ?_
        refine s_bv (fun x43 : Int32 => [some (.ref (gh (xG X) + a0)), some (.int p1), some (.int p2), some (.int x43)]) (fun x43 => ?_) rfl
        refine s_aload_n (pc := 19) 0 dX11_terms_19 rfl rfl ?_
        refine s_geto (pc := 20) F_11 0 rfl o40 dX11_terms_20 kf_X11_10 ?_
        refine s_rvB (fun r44 => ?_)
        refine s_iload_n (pc := 23) 2 dX11_terms_23 rfl rfl ?_
        refine s_grd (fun o45 => ?_)
        refine s_bind (fun q46 hq47 => ?_)
        have hC48 := t_X10_turnTo (l := xl X) (G := xG X) hq47
        refine s_callV (pc := 24) (As := [.int p2]) (st := []) (nlt rfl) (q := (RX10, TX10, 15)) rfl rfl o45 cl_X10_turnTo wi_X10_turnTo wl_X10_turnTo km_X11_164 rfl rfl (nle rfl) (nle rfl) (nle rfl) dX11_terms_24 hC48 ?_
        have h49 := hC48.1 X
        have o50 := h49.ok o40
        show S0 X _ q46 27 [some (.ref (gh (xG X) + a0)), some (.int p1), some (.int p2), some (.int x43)] [] _
        refine s_aload_n (pc := 27) 0 dX11_terms_27 rfl rfl ?_
        refine s_iload_n (pc := 28) 3 dX11_terms_28 rfl rfl ?_
        refine s_bind (fun q51 hq52 => ?_)
        have hC53 := t_X11_accept (l := xl X) (G := xG X) hq52
        refine s_callV (pc := 29) (As := [.int x43]) (st := []) (nlt rfl) (q := (RX11, TX11, 16)) rfl rfl o50 cl_X11_accept wi_X11_accept wl_X11_accept km_X11_108 rfl rfl (nle rfl) (nle rfl) (nle rfl) dX11_terms_29 hC53 ?_
        have h54 := hC53.1 X
        have o55 := h54.ok o50
        show S0 X _ q51.1 32 [some (.ref (gh (xG X) + a0)), some (.int p1), some (.int p2), some (.int x43)] [.int q51.2] _
        exact s_iret rfl dX11_terms_32
set_option maxRecDepth 100000 in
set_option maxHeartbeats 8000000 in
noncomputable def f_X11_turnYear (M : Mem) (a0 : Nat) (p1 : Int32) : Option (Mem × Int32) :=
  Option.bind (f_X11_isYear p1) (fun q1 => if q1 = 0 then (some (M, (-3))) else (grd (okO M 11 a0) (Option.bind (mR M a0 0) (fun r5 => grd (okO M 10 r5) (Option.bind (f_X10_turnTo M r5 p1) (fun q7 => some (q7, 0)))))))
abbrev Y_X11_turnYear : Sta := (RX11, "turnYear", cX11_turnYear, 2, (some .int), 2)
set_option maxRecDepth 100000 in
set_option maxHeartbeats 8000000 in
theorem t_X11_turnYear {l : Launch} {G : Gh} {M : Mem} {a0 : Nat} {p1 : Int32} {q : Mem × Int32} (h : f_X11_turnYear M a0 p1 = some q) : Ctr l G yX11_turnYear Y_X11_turnYear M [.ref (gh G + a0), .int p1] q.1 (some (.int q.2)) := by
  refine Ctr.of (Y := Y_X11_turnYear) (L := [some (.ref (gh G + a0)), some (.int p1)]) (t := Option.bind (f_X11_turnYear M a0 p1) (fun q => some (q.1, some (.int q.2)))) (by decide) rfl rfl (nle rfl) (Lof_in 0 _ rfl) (fun X hG hl => ?_) (by rw [h]; rfl)
  subst hG
  subst hl
  unfold f_X11_turnYear
  refine s_iload_n (pc := 0) 1 dX11_turnYear_0 rfl rfl ?_
  refine s_bind (fun q1 hq2 => ?_)
  have hC3 := t_X11_isYear (l := xl X) (G := xG X) (M := M) hq2
  refine s_callS (pc := 1) (As := [.int p1]) (st := []) cl_X11_isYear wt_X11_isYear km_X11_116 rfl rfl (nle rfl) (nle rfl) (nle rfl) dX11_turnYear_1 hC3 ?_
  show S0 X _ M 4 [some (.ref (gh (xG X) + a0)), some (.int p1)] [.int q1] _
  refine s_ifne (pc := 4) 10 dX11_turnYear_4 rfl ?_ ?_
  · refine s_aload_n (pc := 10) 0 dX11_turnYear_10 rfl rfl ?_
    refine s_grd (fun o4 => ?_)
    refine s_geto (pc := 11) F_11 0 rfl o4 dX11_turnYear_11 kf_X11_10 ?_
    refine s_rvB (fun r5 => ?_)
    refine s_iload_n (pc := 14) 1 dX11_turnYear_14 rfl rfl ?_
    refine s_grd (fun o6 => ?_)
    refine s_bind (fun q7 hq8 => ?_)
    have hC9 := t_X10_turnTo (l := xl X) (G := xG X) hq8
    refine s_callV (pc := 15) (As := [.int p1]) (st := []) (nlt rfl) (q := (RX10, TX10, 15)) rfl rfl o6 cl_X10_turnTo wi_X10_turnTo wl_X10_turnTo km_X11_164 rfl rfl (nle rfl) (nle rfl) (nle rfl) dX11_turnYear_15 hC9 ?_
    have h10 := hC9.1 X
    have o11 := h10.ok o4
    show S0 X _ q7 18 [some (.ref (gh (xG X) + a0)), some (.int p1)] [] _
    refine s_iconst (pc := 18) 0 dX11_turnYear_18 kc_0 ?_
    exact s_iret rfl dX11_turnYear_19
  · refine s_bipush (pc := 7) (-3) dX11_turnYear_7 kb_m3 ?_
    exact s_iret rfl dX11_turnYear_9
