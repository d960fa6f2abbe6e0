set_option maxRecDepth 100000 in
set_option maxHeartbeats 8000000 in
noncomputable def f_X12_feed (M : Mem) (a0 : Nat) (p1 : Int32) (p2 : Int32) (p3 : Int32) (p4 : Int32) (p5 : Int32) : Option (Mem × Int32) :=
  grd (okO M 12 a0) (if ((mI M a0 17) + 20) ≤ 400 then (Option.bind (mR M a0 16) (fun r2 => grd (okO M 14 r2) (grd (vp_in 0 (mL M r2)) (bv (wI M r2 (0 : Int32).toNatClampNeg p1) (fun M5 => Option.bind (mR M5 a0 16) (fun r9 => grd (okO M5 14 r9) (grd (vp_in 1 (mL M5 r9)) (bv (wI M5 r9 (1 : Int32).toNatClampNeg p2) (fun M12 => Option.bind (mR M12 a0 16) (fun r16 => grd (okO M12 14 r16) (grd (vp_in 2 (mL M12 r16)) (bv (wI M12 r16 (2 : Int32).toNatClampNeg p3) (fun M19 => Option.bind (mR M19 a0 16) (fun r23 => grd (okO M19 14 r23) (grd (vp_in 3 (mL M19 r23)) (bv (wI M19 r23 (3 : Int32).toNatClampNeg p4) (fun M26 => Option.bind (mR M26 a0 16) (fun r30 => grd (okO M26 14 r30) (grd (vp_in 4 (mL M26 r30)) (bv (wI M26 r30 (4 : Int32).toNatClampNeg p5) (fun M33 => Option.bind (loopO (σ := Mem × Int32) (ρ := Mem) (fun s37 => if 20 ≤ s37.2 then (some (.inr s37.1)) else (Option.bind (mR s37.1 a0 15) (fun r46 => Option.bind (mR s37.1 a0 16) (fun r47 => grd (okO s37.1 14 r47) (grd (vp_in (s37.2 / 4) (mL s37.1 r47)) (grd (okO s37.1 13 r46) (grd (vp_in ((mI s37.1 a0 17) + s37.2) (mL s37.1 r46)) (bv (wI s37.1 r46 ((mI s37.1 a0 17) + s37.2).toNatClampNeg (vp_nar .byte (nb (sr (mI s37.1 r47 (s37.2 / 4).toNatClampNeg) (24 - (8 * (ir s37.2 4))))))) (fun M52 => bv (s37.2 + 1 : Int32) (fun x56 => some (.inl (M52, x56)))))))))))) (M33, 0)) (fun (x44 : Mem) => bv (wI x44 a0 17 ((mI x44 a0 17) + 20)) (fun M58 => some (M58, mI M58 a0 17)))))))))))))))))))))))) else (some (M, (-1))))
abbrev Y_X12_feed : Sta := (RX12, "feed", cX12_feed, 7, (some .int), 1)
set_option maxRecDepth 100000 in
set_option maxHeartbeats 8000000 in
theorem t_X12_feed {l : Launch} {G : Gh} {M : Mem} {a0 : Nat} {p1 : Int32} {p2 : Int32} {p3 : Int32} {p4 : Int32} {p5 : Int32} {q : Mem × Int32} (h : f_X12_feed M a0 p1 p2 p3 p4 p5 = some q) : Ctr l G yX12_feed Y_X12_feed M [.ref (gh G + a0), .int p1, .int p2, .int p3, .int p4, .int p5] q.1 (some (.int q.2)) := by
  refine Ctr.of (Y := Y_X12_feed) (L := [some (.ref (gh G + a0)), some (.int p1), some (.int p2), some (.int p3), some (.int p4), some (.int p5), none]) (t := Option.bind (f_X12_feed M a0 p1 p2 p3 p4 p5) (fun q => some (q.1, some (.int q.2)))) (by decide) rfl rfl (nle rfl) (Lof_in 1 _ rfl) (fun X hG hl => ?_) (by rw [h]; rfl)
  subst hG
  subst hl
  unfold f_X12_feed
  refine s_aload_n (pc := 0) 0 dX12_feed_0 rfl rfl ?_
  refine s_grd (fun o1 => ?_)
  refine s_geti (pc := 1) F_12 17 rfl o1 dX12_feed_1 kf_X12_211 ?_
  refine s_bipush (pc := 4) 20 dX12_feed_4 kb_20 ?_
  refine s_iadd (pc := 6) dX12_feed_6 ?_
  refine s_sipush (pc := 7) 400 dX12_feed_7 ks_400 ?_
  refine s_icle (pc := 10) 15 dX12_feed_10 rfl ?_ ?_
  · refine s_aload_n (pc := 15) 0 dX12_feed_15 rfl rfl ?_
    refine s_geto (pc := 16) F_12 16 rfl o1 dX12_feed_16 kf_X12_46 ?_
    refine s_rvB (fun r2 => ?_)
    refine s_iconst (pc := 19) 0 dX12_feed_19 kc_0 ?_
    refine s_iload_n (pc := 20) 1 dX12_feed_20 rfl rfl ?_
    refine s_grd (fun o3 => ?_)
    refine s_grd (fun i4 => ?_)
    refine s_iast (pc := 21) o3 i4 dX12_feed_21 (fun M5 hM6 => ?_)
    have h7 := le_wI hM6
    have o8 := h7.ok o1
    refine s_aload_n (pc := 22) 0 dX12_feed_22 rfl rfl ?_
    refine s_geto (pc := 23) F_12 16 rfl o8 dX12_feed_23 kf_X12_46 ?_
    refine s_rvB (fun r9 => ?_)
    refine s_iconst (pc := 26) 1 dX12_feed_26 kc_1 ?_
    refine s_iload_n (pc := 27) 2 dX12_feed_27 rfl rfl ?_
    refine s_grd (fun o10 => ?_)
    refine s_grd (fun i11 => ?_)
    refine s_iast (pc := 28) o10 i11 dX12_feed_28 (fun M12 hM13 => ?_)
    have h14 := le_wI hM13
    have o15 := h14.ok o8
    refine s_aload_n (pc := 29) 0 dX12_feed_29 rfl rfl ?_
    refine s_geto (pc := 30) F_12 16 rfl o15 dX12_feed_30 kf_X12_46 ?_
    refine s_rvB (fun r16 => ?_)
    refine s_iconst (pc := 33) 2 dX12_feed_33 kc_2 ?_
    refine s_iload_n (pc := 34) 3 dX12_feed_34 rfl rfl ?_
    refine s_grd (fun o17 => ?_)
    refine s_grd (fun i18 => ?_)
    refine s_iast (pc := 35) o17 i18 dX12_feed_35 (fun M19 hM20 => ?_)
    have h21 := le_wI hM20
    have o22 := h21.ok o15
    refine s_aload_n (pc := 36) 0 dX12_feed_36 rfl rfl ?_
    refine s_geto (pc := 37) F_12 16 rfl o22 dX12_feed_37 kf_X12_46 ?_
    refine s_rvB (fun r23 => ?_)
    refine s_iconst (pc := 40) 3 dX12_feed_40 kc_3 ?_
    refine s_iload (pc := 41) dX12_feed_41 rfl ?_
    refine s_grd (fun o24 => ?_)
    refine s_grd (fun i25 => ?_)
    refine s_iast (pc := 43) o24 i25 dX12_feed_43 (fun M26 hM27 => ?_)
    have h28 := le_wI hM27
    have o29 := h28.ok o22
    refine s_aload_n (pc := 44) 0 dX12_feed_44 rfl rfl ?_
    refine s_geto (pc := 45) F_12 16 rfl o29 dX12_feed_45 kf_X12_46 ?_
    refine s_rvB (fun r30 => ?_)
    refine s_iconst (pc := 48) 4 dX12_feed_48 kc_4 ?_
    refine s_iload (pc := 49) dX12_feed_49 rfl ?_
    refine s_grd (fun o31 => ?_)
    refine s_grd (fun i32 => ?_)
    refine s_iast (pc := 51) o31 i32 dX12_feed_51 (fun M33 hM34 => ?_)
    have h35 := le_wI hM34
    have o36 := h35.ok o29
    refine s_iconst (pc := 52) 0 dX12_feed_52 kc_0 ?_
    refine s_istore (pc := 53) dX12_feed_53 (nlt rfl) rfl (L' := [some (.ref (gh (xG X) + a0)), some (.int p1), some (.int p2), some (.int p3), some (.int p4), some (.int p5), some (.int 0)]) rfl ?_
    refine s_drop (L' := [some (.ref (gh (xG X) + a0)), none, none, none, none, none, some (.int 0)]) ?_ (And.intro rfl (And.intro rfl trivial))
    refine s_loop1 M33 (fun s37 : Mem × Int32 => s37.1) (fun s37 : Mem × Int32 => [some (.ref (gh (xG X) + a0)), none, none, none, none, none, some (.int s37.2)]) (fun x44 : Mem => x44) 101 (fun x44 : Mem => [some (.ref (gh (xG X) + a0)), none, none, none, none, none, none]) (fun x44 hx45 => ?_) (fun T39 R41 hT40 hR42 s37 hs38 => ?_) (M33, 0) Le.rf
    · show S0 X _ x44 101 [some (.ref (gh (xG X) + a0)), none, none, none, none, none, none] [] _
      have o57 := hx45.ok o36
      refine s_aload_n (pc := 101) 0 dX12_feed_101 rfl rfl ?_
      refine s_dup (pc := 102) dX12_feed_102 rfl ?_
      refine s_geti (pc := 103) F_12 17 rfl o57 dX12_feed_103 kf_X12_211 ?_
      refine s_bipush (pc := 106) 20 dX12_feed_106 kb_20 ?_
      refine s_iadd (pc := 108) dX12_feed_108 ?_
      refine s_puti (pc := 109) F_12 17 rfl o57 rfl rfl rfl dX12_feed_109 kf_X12_211 (fun M58 hM59 => ?_)
      have h60 := le_wI hM59
      have o61 := h60.ok o57
      refine s_aload_n (pc := 112) 0 dX12_feed_112 rfl rfl ?_
      refine s_geti (pc := 113) F_12 17 rfl o61 dX12_feed_113 kf_X12_211 ?_
      exact s_iret rfl dX12_feed_116
    · show S0 X _ s37.1 55 [some (.ref (gh (xG X) + a0)), none, none, none, none, none, some (.int s37.2)] [] _
      have o43 := hs38.ok o36
      refine s_iload (pc := 55) dX12_feed_55 rfl ?_
      refine s_bipush (pc := 57) 20 dX12_feed_57 kb_20 ?_
      refine s_icge (pc := 59) 101 dX12_feed_59 rfl ?_ ?_
      · exact s_drop (hR42 s37.1 hs38) (And.intro rfl trivial)
      · refine s_aload_n (pc := 62) 0 dX12_feed_62 rfl rfl ?_
        refine s_geto (pc := 63) F_12 15 rfl o43 dX12_feed_63 kf_X12_43 ?_
        refine s_rvB (fun r46 => ?_)
        refine s_aload_n (pc := 66) 0 dX12_feed_66 rfl rfl ?_
        refine s_geti (pc := 67) F_12 17 rfl o43 dX12_feed_67 kf_X12_211 ?_
        refine s_iload (pc := 70) dX12_feed_70 rfl ?_
        refine s_iadd (pc := 72) dX12_feed_72 ?_
        refine s_aload_n (pc := 73) 0 dX12_feed_73 rfl rfl ?_
        refine s_geto (pc := 74) F_12 16 rfl o43 dX12_feed_74 kf_X12_46 ?_
        refine s_rvB (fun r47 => ?_)
        refine s_iload (pc := 77) dX12_feed_77 rfl ?_
        refine s_iconst (pc := 79) 4 dX12_feed_79 kc_4 ?_
        refine s_idiv (pc := 80) dX12_feed_80 (by decide) ?_
        refine s_grd (fun o48 => ?_)
        refine s_grd (fun i49 => ?_)
        refine s_iald (pc := 81) o48 i49 dX12_feed_81 ?_
        refine s_bipush (pc := 82) 24 dX12_feed_82 kb_24 ?_
        refine s_bipush (pc := 84) 8 dX12_feed_84 kb_8 ?_
        refine s_iload (pc := 86) dX12_feed_86 rfl ?_
        refine s_iconst (pc := 88) 4 dX12_feed_88 kc_4 ?_
        refine s_irem (pc := 89) dX12_feed_89 (by decide) ?_
        refine s_imul (pc := 90) dX12_feed_90 ?_
        refine s_isub (pc := 91) dX12_feed_91 ?_
        refine s_ishr (pc := 92) dX12_feed_92 ?_
        refine s_i2b (pc := 93) dX12_feed_93 ?_
        refine s_grd (fun o50 => ?_)
        refine s_grd (fun i51 => ?_)
        refine s_bast (pc := 94) o50 i51 dX12_feed_94 (fun M52 hM53 => ?_)
        have h54 := le_wI hM53
        have o55 := h54.ok o43
        refine s_iinc (pc := 95) dX12_feed_95 rfl (v := s37.2 + 1) (congrArg (fun z : Int32 => s37.2 + z) kc_1) (nlt rfl) rfl (L' := [some (.ref (gh (xG X) + a0)), none, none, none, none, none, some (.int (s37.2 + 1))]) rfl ?_
        refine s_bv (fun x56 : Int32 => [some (.ref (gh (xG X) + a0)), none, none, none, none, none, some (.int x56)]) (fun x56 => ?_) rfl
        refine s_goto (pc := 98) 55 dX12_feed_98 rfl ?_
        exact s_drop (hT40 (M52, x56) (hs38.tr h54)) (And.intro rfl (And.intro rfl trivial))
  · refine s_iconst (pc := 13) (-1) dX12_feed_13 kc_m1 ?_
    exact s_iret rfl dX12_feed_14
set_option maxRecDepth 100000 in
set_option maxHeartbeats 8000000 in
noncomputable def f_X12_fine (M : Mem) (a0 : Nat) : Option Int32 :=
  grd (okO M 12 a0) (if (mI M a0 25) = (-1) then (some 1) else (some 0))
abbrev Y_X12_fine : Sta := (RX12, "fine", cX12_fine, 1, (some .boolean), 1)
set_option maxRecDepth 100000 in
set_option maxHeartbeats 8000000 in
theorem t_X12_fine {l : Launch} {G : Gh} {M : Mem} {a0 : Nat} {q : Int32} (h : f_X12_fine M a0 = some q) : Ctr l G yX12_fine Y_X12_fine M [.ref (gh G + a0)] M (some (.int q)) := by
  refine Ctr.of (Y := Y_X12_fine) (L := [some (.ref (gh G + a0))]) (t := Option.bind (f_X12_fine M a0) (fun q => some (M, some (.int q)))) (by decide) rfl rfl (nle rfl) (Lof_in 0 _ rfl) (fun X hG hl => ?_) (by rw [h]; rfl)
  subst hG
  subst hl
  unfold f_X12_fine
  refine s_aload_n (pc := 0) 0 dX12_fine_0 rfl rfl ?_
  refine s_grd (fun o1 => ?_)
  refine s_geti (pc := 1) F_12 25 rfl o1 dX12_fine_1 kf_X12_230 ?_
  refine s_iconst (pc := 4) (-1) dX12_fine_4 kc_m1 ?_
  refine s_icne (pc := 5) 12 dX12_fine_5 rfl ?_ ?_
  · refine s_iconst (pc := 12) 0 dX12_fine_12 kc_0 ?_
    exact s_zret rfl rfl dX12_fine_13
  · refine s_iconst (pc := 8) 1 dX12_fine_8 kc_1 ?_
    refine s_goto (pc := 9) 13 dX12_fine_9 rfl ?_
    exact s_zret rfl rfl dX12_fine_13
set_option maxRecDepth 100000 in
set_option maxHeartbeats 8000000 in
noncomputable def f_X12_good (M : Mem) (a0 : Nat) (p1 : Int32) : Option (Mem × Int32) :=
  grd (okO M 12 a0) (bv (wI M a0 0 0) (fun M2 => bv (wI M2 a0 1 ((mI M2 a0 1) + 1)) (fun M6 => some (M6, p1))))
abbrev Y_X12_good : Sta := (RX12, "good", cX12_good, 2, (some .int), 1)
set_option maxRecDepth 100000 in
set_option maxHeartbeats 8000000 in
theorem t_X12_good {l : Launch} {G : Gh} {M : Mem} {a0 : Nat} {p1 : Int32} {q : Mem × Int32} (h : f_X12_good M a0 p1 = some q) : Ctr l G yX12_good Y_X12_good M [.ref (gh G + a0), .int p1] q.1 (some (.int q.2)) := by
  refine Ctr.of (Y := Y_X12_good) (L := [some (.ref (gh G + a0)), some (.int p1)]) (t := Option.bind (f_X12_good M a0 p1) (fun q => some (q.1, some (.int q.2)))) (by decide) rfl rfl (nle rfl) (Lof_in 0 _ rfl) (fun X hG hl => ?_) (by rw [h]; rfl)
  subst hG
  subst hl
  unfold f_X12_good
  refine s_aload_n (pc := 0) 0 dX12_good_0 rfl rfl ?_
  refine s_iconst (pc := 1) 0 dX12_good_1 kc_0 ?_
  refine s_grd (fun o1 => ?_)
  refine s_puti (pc := 2) F_12 0 rfl o1 rfl rfl rfl dX12_good_2 kf_X12_3 (fun M2 hM3 => ?_)
  have h4 := le_wI hM3
  have o5 := h4.ok o1
  refine s_aload_n (pc := 5) 0 dX12_good_5 rfl rfl ?_
  refine s_dup (pc := 6) dX12_good_6 rfl ?_
  refine s_geti (pc := 7) F_12 1 rfl o5 dX12_good_7 kf_X12_11 ?_
  refine s_iconst (pc := 10) 1 dX12_good_10 kc_1 ?_
  refine s_iadd (pc := 11) dX12_good_11 ?_
  refine s_puti (pc := 12) F_12 1 rfl o5 rfl rfl rfl dX12_good_12 kf_X12_11 (fun M6 hM7 => ?_)
  have h8 := le_wI hM7
  have o9 := h8.ok o5
  refine s_iload_n (pc := 15) 1 dX12_good_15 rfl rfl ?_
  exact s_iret rfl dX12_good_16
set_option maxRecDepth 100000 in
set_option maxHeartbeats 8000000 in
noncomputable def f_X12_gotFor (M : Mem) (a0 : Nat) (p1 : Int32) : Option Int32 :=
  Option.bind (loopO (σ := Int32 × Int32) (ρ := Unit ⊕ Int32) (fun s1 => if 6 < s1.2 then (some (.inr (.inl ()))) else (if s1.1 = (-1) then (some (.inr (.inl ()))) else (grd (okO M 12 a0) (Option.bind (mR M a0 3) (fun r14 => grd (okO M 14 r14) (grd (vp_in (6 + s1.1) (mL M r14)) (if (mI M r14 (6 + s1.1).toNatClampNeg) = 1 then (some (.inr (.inr s1.1))) else (Option.bind (mR M a0 3) (fun r17 => grd (okO M 14 r17) (grd (vp_in (12 + s1.1) (mL M r17)) (bv (mI M r17 (12 + s1.1).toNatClampNeg : Int32) (fun x20 => bv (s1.2 + 1 : Int32) (fun x21 => some (.inl (x20, x21))))))))))))))) (p1, 0)) (Sum.elim (fun (x9 : Unit) => some (-1)) (fun (x11 : Int32) => some x11))
abbrev Y_X12_gotFor : Sta := (RX12, "gotFor", cX12_gotFor, 4, (some .int), 1)
set_option maxRecDepth 100000 in
set_option maxHeartbeats 8000000 in
theorem t_X12_gotFor {l : Launch} {G : Gh} {M : Mem} {a0 : Nat} {p1 : Int32} {q : Int32} (h : f_X12_gotFor M a0 p1 = some q) : Ctr l G yX12_gotFor Y_X12_gotFor M [.ref (gh G + a0), .int p1] M (some (.int q)) := by
  refine Ctr.of (Y := Y_X12_gotFor) (L := [some (.ref (gh G + a0)), some (.int p1), none, none]) (t := Option.bind (f_X12_gotFor M a0 p1) (fun q => some (M, some (.int q)))) (by decide) rfl rfl (nle rfl) (Lof_in 2 _ rfl) (fun X hG hl => ?_) (by rw [h]; rfl)
  subst hG
  subst hl
  unfold f_X12_gotFor
  refine s_iload_n (pc := 0) 1 dX12_gotFor_0 rfl rfl ?_
  refine s_istore_n (pc := 1) 2 dX12_gotFor_1 rfl (nlt rfl) rfl (L' := [some (.ref (gh (xG X) + a0)), some (.int p1), some (.int p1), none]) rfl ?_
  refine s_iconst (pc := 2) 0 dX12_gotFor_2 kc_0 ?_
  refine s_istore_n (pc := 3) 3 dX12_gotFor_3 rfl (nlt rfl) rfl (L' := [some (.ref (gh (xG X) + a0)), some (.int p1), some (.int p1), some (.int 0)]) rfl ?_
  refine s_drop (L' := [some (.ref (gh (xG X) + a0)), none, some (.int p1), some (.int 0)]) ?_ (And.intro rfl (And.intro rfl (And.intro rfl trivial)))
  refine s_loop2 M (fun s1 : Int32 × Int32 => M) (fun s1 : Int32 × Int32 => [some (.ref (gh (xG X) + a0)), none, some (.int s1.1), some (.int s1.2)]) (fun x9 : Unit => M) 46 (fun x9 : Unit => [none, none, none, none]) (fun x11 : Int32 => M) 28 (fun x11 : Int32 => [none, none, some (.int x11), none]) (fun x9 hx10 => ?_) (fun x11 hx12 => ?_) (fun T3 R5 R7 hT4 hR6 hR8 s1 hs2 => ?_) (p1, 0) Le.rf
  · show S0 X _ M 46 [none, none, none, none] [] _
    refine s_iconst (pc := 46) (-1) dX12_gotFor_46 kc_m1 ?_
    exact s_iret rfl dX12_gotFor_47
  · show S0 X _ M 28 [none, none, some (.int x11), none] [] _
    refine s_iload_n (pc := 28) 2 dX12_gotFor_28 rfl rfl ?_
    exact s_iret rfl dX12_gotFor_29
  · show S0 X _ M 4 [some (.ref (gh (xG X) + a0)), none, some (.int s1.1), some (.int s1.2)] [] _
    refine s_iload_n (pc := 4) 3 dX12_gotFor_4 rfl rfl ?_
    refine s_bipush (pc := 5) 6 dX12_gotFor_5 kb_6 ?_
    refine s_icgt (pc := 7) 46 dX12_gotFor_7 rfl ?_ ?_
    · exact s_drop (hR6 () Le.rf) trivial
    · refine s_iload_n (pc := 10) 2 dX12_gotFor_10 rfl rfl ?_
      refine s_iconst (pc := 11) (-1) dX12_gotFor_11 kc_m1 ?_
      refine s_iceq (pc := 12) 46 dX12_gotFor_12 rfl ?_ ?_
      · exact s_drop (hR6 () Le.rf) trivial
      · refine s_aload_n (pc := 15) 0 dX12_gotFor_15 rfl rfl ?_
        refine s_grd (fun o13 => ?_)
        refine s_geto (pc := 16) F_12 3 rfl o13 dX12_gotFor_16 kf_X12_20 ?_
        refine s_rvB (fun r14 => ?_)
        refine s_bipush (pc := 19) 6 dX12_gotFor_19 kb_6 ?_
        refine s_iload_n (pc := 21) 2 dX12_gotFor_21 rfl rfl ?_
        refine s_iadd (pc := 22) dX12_gotFor_22 ?_
        refine s_grd (fun o15 => ?_)
        refine s_grd (fun i16 => ?_)
        refine s_iald (pc := 23) o15 i16 dX12_gotFor_23 ?_
        refine s_iconst (pc := 24) 1 dX12_gotFor_24 kc_1 ?_
        refine s_icne (pc := 25) 30 dX12_gotFor_25 rfl ?_ ?_
        · refine s_aload_n (pc := 30) 0 dX12_gotFor_30 rfl rfl ?_
          refine s_geto (pc := 31) F_12 3 rfl o13 dX12_gotFor_31 kf_X12_20 ?_
          refine s_rvB (fun r17 => ?_)
          refine s_bipush (pc := 34) 12 dX12_gotFor_34 kb_12 ?_
          refine s_iload_n (pc := 36) 2 dX12_gotFor_36 rfl rfl ?_
          refine s_iadd (pc := 37) dX12_gotFor_37 ?_
          refine s_grd (fun o18 => ?_)
          refine s_grd (fun i19 => ?_)
          refine s_iald (pc := 38) o18 i19 dX12_gotFor_38 ?_
          refine s_istore_n (pc := 39) 2 dX12_gotFor_39 rfl (nlt rfl) rfl (L' := [some (.ref (gh (xG X) + a0)), none, some (.int (mI M r17 (12 + s1.1).toNatClampNeg)), some (.int s1.2)]) rfl ?_
          refine s_bv (fun x20 : Int32 => [some (.ref (gh (xG X) + a0)), none, some (.int x20), some (.int s1.2)]) (fun x20 => ?_) rfl
          refine s_iinc (pc := 40) dX12_gotFor_40 rfl (v := s1.2 + 1) (congrArg (fun z : Int32 => s1.2 + z) kc_1) (nlt rfl) rfl (L' := [some (.ref (gh (xG X) + a0)), none, some (.int x20), some (.int (s1.2 + 1))]) rfl ?_
          refine s_bv (fun x21 : Int32 => [some (.ref (gh (xG X) + a0)), none, some (.int x20), some (.int x21)]) (fun x21 => ?_) rfl
          refine s_goto (pc := 43) 4 dX12_gotFor_43 rfl ?_
          exact s_drop (hT4 (x20, x21) Le.rf) (And.intro rfl (And.intro rfl (And.intro rfl trivial)))
        · exact s_drop (hR8 s1.1 Le.rf) (And.intro rfl trivial)
set_option maxRecDepth 100000 in
set_option maxHeartbeats 8000000 in
noncomputable def f_X12_has (a0 : Nat) (p1 : Int32) (p2 : Int32) : Option Int32 :=
  Option.bind (loopO (σ := Int32 × Int32) (ρ := Int32) (fun s1 => if s1.2 ≤ 0 then (some (.inr s1.1)) else (bv (fun (s10 : Int32) => bv (s1.1 + s10 : Int32) (fun x13 => bv (s1.2 / 10 : Int32) (fun x14 => some (.inl (x13, x14))))) (fun j9 => if (ir s1.2 10) = (p2 + 1) then (j9 1) else (j9 0)))) (0, p1)) (fun (x7 : Int32) => some x7)
abbrev Y_X12_has : Sta := (RX12, "has", cX12_has, 5, (some .int), 1)
set_option maxRecDepth 100000 in
set_option maxHeartbeats 8000000 in
theorem t_X12_has {l : Launch} {G : Gh} {M : Mem} {a0 : Nat} {p1 : Int32} {p2 : Int32} {q : Int32} (h : f_X12_has a0 p1 p2 = some q) : Ctr l G yX12_has Y_X12_has M [.ref (gh G + a0), .int p1, .int p2] M (some (.int q)) := by
  refine Ctr.of (Y := Y_X12_has) (L := [some (.ref (gh G + a0)), some (.int p1), some (.int p2), none, none]) (t := Option.bind (f_X12_has a0 p1 p2) (fun q => some (M, some (.int q)))) (by decide) rfl rfl (nle rfl) (Lof_in 2 _ rfl) (fun X hG hl => ?_) (by rw [h]; rfl)
  subst hG
  subst hl
  unfold f_X12_has
  refine s_iconst (pc := 0) 0 dX12_has_0 kc_0 ?_
  refine s_istore_n (pc := 1) 3 dX12_has_1 rfl (nlt rfl) rfl (L' := [some (.ref (gh (xG X) + a0)), some (.int p1), some (.int p2), some (.int 0), none]) rfl ?_
  refine s_iload_n (pc := 2) 1 dX12_has_2 rfl rfl ?_
  refine s_istore (pc := 3) dX12_has_3 (nlt rfl) rfl (L' := [some (.ref (gh (xG X) + a0)), some (.int p1), some (.int p2), some (.int 0), some (.int p1)]) rfl ?_
  refine s_drop (L' := [none, none, some (.int p2), some (.int 0), some (.int p1)]) ?_ (And.intro rfl (And.intro rfl (And.intro rfl trivial)))
  refine s_loop1 M (fun s1 : Int32 × Int32 => M) (fun s1 : Int32 × Int32 => [none, none, some (.int p2), some (.int s1.1), some (.int s1.2)]) (fun x7 : Int32 => M) 39 (fun x7 : Int32 => [none, none, none, some (.int x7), none]) (fun x7 hx8 => ?_) (fun T3 R5 hT4 hR6 s1 hs2 => ?_) (0, p1) Le.rf
  · show S0 X _ M 39 [none, none, none, some (.int x7), none] [] _
    refine s_iload_n (pc := 39) 3 dX12_has_39 rfl rfl ?_
    exact s_iret rfl dX12_has_40
  · show S0 X _ M 5 [none, none, some (.int p2), some (.int s1.1), some (.int s1.2)] [] _
    refine s_iload (pc := 5) dX12_has_5 rfl ?_
    refine s_ifle (pc := 7) 39 dX12_has_7 rfl ?_ ?_
    · exact s_drop (hR6 s1.1 Le.rf) (And.intro rfl trivial)
    · refine s_iload_n (pc := 10) 3 dX12_has_10 rfl rfl ?_
      refine s_iload (pc := 11) dX12_has_11 rfl ?_
      refine s_bipush (pc := 13) 10 dX12_has_13 kb_10 ?_
      refine s_irem (pc := 15) dX12_has_15 (by decide) ?_
      refine s_iload_n (pc := 16) 2 dX12_has_16 rfl rfl ?_
      refine s_iconst (pc := 17) 1 dX12_has_17 kc_1 ?_
      refine s_iadd (pc := 18) dX12_has_18 ?_
      refine s_join M (fun s10 : Int32 => M) 27 (fun s10 : Int32 => [none, none, some (.int p2), none, some (.int s1.2)]) (fun s10 : Int32 => [.int s10, .int s1.1]) (fun s10 hs11 => ?_) (fun j9 hj12 => ?_)
      · show S0 X _ M 27 [none, none, some (.int p2), none, some (.int s1.2)] [.int s10, .int s1.1] _
        refine s_iadd (pc := 27) dX12_has_27 ?_
        refine s_istore_n (pc := 28) 3 dX12_has_28 rfl (nlt rfl) rfl (L' := [none, none, some (.int p2), some (.int (s1.1 + s10)), some (.int s1.2)]) rfl ?_
        refine s_bv (fun x13 : Int32 => [none, none, some (.int p2), some (.int x13), some (.int s1.2)]) (fun x13 => ?_) rfl
        refine s_iload (pc := 29) dX12_has_29 rfl ?_
        refine s_bipush (pc := 31) 10 dX12_has_31 kb_10 ?_
        refine s_idiv (pc := 33) dX12_has_33 (by decide) ?_
        refine s_istore (pc := 34) dX12_has_34 (nlt rfl) rfl (L' := [none, none, some (.int p2), some (.int x13), some (.int (s1.2 / 10))]) rfl ?_
        refine s_bv (fun x14 : Int32 => [none, none, some (.int p2), some (.int x13), some (.int x14)]) (fun x14 => ?_) rfl
        refine s_goto (pc := 36) 5 dX12_has_36 rfl ?_
        exact s_drop (hT4 (x13, x14) Le.rf) (And.intro rfl (And.intro rfl (And.intro rfl trivial)))
      · refine s_icne (pc := 19) 26 dX12_has_19 rfl ?_ ?_
        · refine s_iconst (pc := 26) 0 dX12_has_26 kc_0 ?_
          exact s_drop (hj12 0 Le.rf) (And.intro rfl (And.intro rfl trivial))
        · refine s_iconst (pc := 22) 1 dX12_has_22 kc_1 ?_
          refine s_goto (pc := 23) 27 dX12_has_23 rfl ?_
          exact s_drop (hj12 1 Le.rf) (And.intro rfl (And.intro rfl trivial))
