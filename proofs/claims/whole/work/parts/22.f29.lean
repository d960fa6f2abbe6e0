set_option maxRecDepth 100000 in
set_option maxHeartbeats 8000000 in
noncomputable def b_X7_both (g_X7_plain : Mem → Nat → Int32 → Option (Mem × Int32)) (M : Mem) (a0 : Nat) (p1 : Int32) : Option (Mem × Int32) :=
  grd (okO M 7 a0) (Option.bind (g_X7_plain M a0 p1) (fun q2 => if q2.2 = 0 then (some (q2.1, 0)) else (Option.bind (loopO (σ := Mem × Int32) (ρ := Mem ⊕ Mem) (fun s7 => if 400 ≤ s7.2 then (some (.inr (.inl s7.1))) else (if (mI s7.1 a0 8) = 264 then (Option.bind (mR s7.1 a0 3) (fun r20 => grd (okO s7.1 9 r20) (Option.bind (f_X9_emit s7.1 r20 13 0) (fun q22 => Option.bind (f_X7_next q22.1 a0) (fun q27 => Option.bind (g_X7_plain q27 a0 p1) (fun q32 => if q32.2 = 0 then (some (.inr (.inr q32.1))) else (Option.bind (mR q32.1 a0 3) (fun r37 => grd (okO q32.1 9 r37) (Option.bind (f_X9_aim q32.1 r37 q22.2) (fun q39 => bv (s7.2 + 1 : Int32) (fun x44 => some (.inl (q39, x44))))))))))))) else (some (.inr (.inl s7.1))))) (q2.1, 0)) (Sum.elim (fun (x16 : Mem) => some (x16, 1)) (fun (x18 : Mem) => some (x18, 0))))))
set_option maxRecDepth 100000 in
set_option maxHeartbeats 8000000 in
theorem t_X7_both {d : Nat} {g_X7_plain : Mem → Nat → Int32 → Option (Mem × Int32)} {l : Launch} {G : Gh} {M : Mem} {a0 : Nat} {p1 : Int32} {q : Mem × Int32} (hg_X7_plain : ∀ X : Ctx, xG X = G → xl X = l → ∀ (M : Mem) (a0 : Nat) (p1 : Int32) (q : Mem × Int32), g_X7_plain M a0 p1 = some q → Ctr (xl X) (xG X) yX7_plain (Y_X7_plain d) M [.ref (gh (xG X) + a0), .int p1] q.1 (some (.int q.2))) (h : b_X7_both g_X7_plain M a0 p1 = some q) : Ctr l G yX7_both (Y_X7_both (d + 1)) M [.ref (gh G + a0), .int p1] q.1 (some (.int q.2)) := by
  refine Ctr.of (Y := (Y_X7_both (d + 1))) (L := [some (.ref (gh G + a0)), some (.int p1), none, none]) (t := Option.bind (b_X7_both g_X7_plain M a0 p1) (fun q => some (q.1, some (.int q.2)))) (by decide) rfl rfl (nle rfl) (Lof_in 2 _ rfl) (fun X hG hl => ?_) (by rw [h]; rfl)
  subst hG
  subst hl
  unfold b_X7_both
  refine s_aload_n (pc := 0) 0 dX7_both_0 rfl rfl ?_
  refine s_iload_n (pc := 1) 1 dX7_both_1 rfl rfl ?_
  refine s_grd (fun o1 => ?_)
  refine s_bind (fun q2 hq3 => ?_)
  have hC4 := hg_X7_plain X rfl rfl M a0 p1 q2 hq3
  refine s_callV (pc := 2) (As := [.int p1]) (st := []) (nlt rfl) (q := (RX7, TX7, 10)) rfl rfl o1 cl_X7_plain wi_X7_plain wl_X7_plain km_X7_146 rfl rfl (Nat.le_refl _) (nle rfl) (nle rfl) dX7_both_2 hC4 ?_
  have h5 := hC4.1 X
  have o6 := h5.ok o1
  show S0 X _ q2.1 5 [some (.ref (gh (xG X) + a0)), some (.int p1), none, none] [.int q2.2] _
  refine s_ifne (pc := 5) 10 dX7_both_5 rfl ?_ ?_
  · refine s_iconst (pc := 10) 0 dX7_both_10 kc_0 ?_
    refine s_istore_n (pc := 11) 2 dX7_both_11 rfl (nlt rfl) rfl (L' := [some (.ref (gh (xG X) + a0)), some (.int p1), some (.int 0), none]) rfl ?_
    refine s_drop (L' := [some (.ref (gh (xG X) + a0)), some (.int p1), some (.int 0), none]) ?_ (And.intro rfl (And.intro rfl (And.intro rfl trivial)))
    refine s_loop2 q2.1 (fun s7 : Mem × Int32 => s7.1) (fun s7 : Mem × Int32 => [some (.ref (gh (xG X) + a0)), some (.int p1), some (.int s7.2), none]) (fun x16 : Mem => x16) 68 (fun x16 : Mem => [none, none, none, none]) (fun x18 : Mem => x18) 52 (fun x18 : Mem => [none, none, none, none]) (fun x16 hx17 => ?_) (fun x18 hx19 => ?_) (fun T9 R11 R13 hT10 hR12 hR14 s7 hs8 => ?_) (q2.1, 0) Le.rf
    · show S0 X _ x16 68 [none, none, none, none] [] _
      refine s_iconst (pc := 68) 1 dX7_both_68 kc_1 ?_
      exact s_zret rfl rfl dX7_both_69
    · show S0 X _ x18 52 [none, none, none, none] [] _
      refine s_iconst (pc := 52) 0 dX7_both_52 kc_0 ?_
      exact s_zret rfl rfl dX7_both_53
    · show S0 X _ s7.1 12 [some (.ref (gh (xG X) + a0)), some (.int p1), some (.int s7.2), none] [] _
      have o15 := hs8.ok o6
      refine s_iload_n (pc := 12) 2 dX7_both_12 rfl rfl ?_
      refine s_sipush (pc := 13) 400 dX7_both_13 ks_400 ?_
      refine s_icge (pc := 16) 68 dX7_both_16 rfl ?_ ?_
      · exact s_drop (hR12 s7.1 hs8) trivial
      · refine s_aload_n (pc := 19) 0 dX7_both_19 rfl rfl ?_
        refine s_geti (pc := 20) F_7 8 rfl o15 dX7_both_20 kf_X7_66 ?_
        refine s_sipush (pc := 23) 264 dX7_both_23 ks_264 ?_
        refine s_icne (pc := 26) 68 dX7_both_26 rfl ?_ ?_
        · exact s_drop (hR12 s7.1 hs8) trivial
        · refine s_aload_n (pc := 29) 0 dX7_both_29 rfl rfl ?_
          refine s_geto (pc := 30) F_7 3 rfl o15 dX7_both_30 kf_X7_26 ?_
          refine s_rvB (fun r20 => ?_)
          refine s_bipush (pc := 33) 13 dX7_both_33 kb_13 ?_
          refine s_iconst (pc := 35) 0 dX7_both_35 kc_0 ?_
          refine s_grd (fun o21 => ?_)
          refine s_bind (fun q22 hq23 => ?_)
          have hC24 := t_X9_emit (l := xl X) (G := xG X) hq23
          refine s_callV (pc := 36) (As := [.int 13, .int 0]) (st := []) (nlt rfl) (q := (RX9, TX9, 5)) rfl rfl o21 cl_X9_emit wi_X9_emit wl_X9_emit km_X7_134 rfl rfl (Nat.le_trans (nle rfl : _ ≤ 105) (Nat.le_add_right 105 _)) (nle rfl) (nle rfl) dX7_both_36 hC24 ?_
          have h25 := hC24.1 X
          have o26 := h25.ok o15
          show S0 X _ q22.1 39 [some (.ref (gh (xG X) + a0)), some (.int p1), some (.int s7.2), none] [.int q22.2] _
          refine s_istore_n (pc := 39) 3 dX7_both_39 rfl (nlt rfl) rfl (L' := [some (.ref (gh (xG X) + a0)), some (.int p1), some (.int s7.2), some (.int q22.2)]) rfl ?_
          refine s_aload_n (pc := 40) 0 dX7_both_40 rfl rfl ?_
          refine s_bind (fun q27 hq28 => ?_)
          have hC29 := t_X7_next (l := xl X) (G := xG X) hq28
          refine s_callV (pc := 41) (As := []) (st := []) (nlt rfl) (q := (RX7, TX7, 10)) rfl rfl o26 cl_X7_next wi_X7_next wl_X7_next km_X7_79 rfl rfl (Nat.le_trans (nle rfl : _ ≤ 105) (Nat.le_add_right 105 _)) (nle rfl) (nle rfl) dX7_both_41 hC29 ?_
          have h30 := hC29.1 X
          have o31 := h30.ok o26
          show S0 X _ q27 44 [some (.ref (gh (xG X) + a0)), some (.int p1), some (.int s7.2), some (.int q22.2)] [] _
          refine s_aload_n (pc := 44) 0 dX7_both_44 rfl rfl ?_
          refine s_iload_n (pc := 45) 1 dX7_both_45 rfl rfl ?_
          refine s_bind (fun q32 hq33 => ?_)
          have hC34 := hg_X7_plain X rfl rfl q27 a0 p1 q32 hq33
          refine s_callV (pc := 46) (As := [.int p1]) (st := []) (nlt rfl) (q := (RX7, TX7, 10)) rfl rfl o31 cl_X7_plain wi_X7_plain wl_X7_plain km_X7_146 rfl rfl (Nat.le_refl _) (nle rfl) (nle rfl) dX7_both_46 hC34 ?_
          have h35 := hC34.1 X
          have o36 := h35.ok o31
          show S0 X _ q32.1 49 [some (.ref (gh (xG X) + a0)), some (.int p1), some (.int s7.2), some (.int q22.2)] [.int q32.2] _
          refine s_ifne (pc := 49) 54 dX7_both_49 rfl ?_ ?_
          · refine s_aload_n (pc := 54) 0 dX7_both_54 rfl rfl ?_
            refine s_geto (pc := 55) F_7 3 rfl o36 dX7_both_55 kf_X7_26 ?_
            refine s_rvB (fun r37 => ?_)
            refine s_iload_n (pc := 58) 3 dX7_both_58 rfl rfl ?_
            refine s_grd (fun o38 => ?_)
            refine s_bind (fun q39 hq40 => ?_)
            have hC41 := t_X9_aim (l := xl X) (G := xG X) hq40
            refine s_callV (pc := 59) (As := [.int q22.2]) (st := []) (nlt rfl) (q := (RX9, TX9, 5)) rfl rfl o38 cl_X9_aim wi_X9_aim wl_X9_aim km_X7_143 rfl rfl (Nat.le_trans (nle rfl : _ ≤ 105) (Nat.le_add_right 105 _)) (nle rfl) (nle rfl) dX7_both_59 hC41 ?_
            have h42 := hC41.1 X
            have o43 := h42.ok o36
            show S0 X _ q39 62 [some (.ref (gh (xG X) + a0)), some (.int p1), some (.int s7.2), some (.int q22.2)] [] _
            refine s_iinc (pc := 62) dX7_both_62 rfl (v := s7.2 + 1) (congrArg (fun z : Int32 => s7.2 + z) kc_1) (nlt rfl) rfl (L' := [some (.ref (gh (xG X) + a0)), some (.int p1), some (.int (s7.2 + 1)), some (.int q22.2)]) rfl ?_
            refine s_bv (fun x44 : Int32 => [some (.ref (gh (xG X) + a0)), some (.int p1), some (.int x44), some (.int q22.2)]) (fun x44 => ?_) rfl
            refine s_goto (pc := 65) 12 dX7_both_65 rfl ?_
            exact s_drop (hT10 (q39, x44) (hs8.tr (h25.tr (h30.tr (h35.tr h42))))) (And.intro rfl (And.intro rfl (And.intro rfl trivial)))
          · exact s_drop (hR14 q32.1 (hs8.tr (h25.tr (h30.tr h35)))) trivial
  · refine s_iconst (pc := 8) 0 dX7_both_8 kc_0 ?_
    exact s_zret rfl rfl dX7_both_9
set_option maxRecDepth 100000 in
set_option maxHeartbeats 8000000 in
noncomputable def b_X7_inRound (g_X7_test : Mem → Nat → Int32 → Option (Mem × Int32)) (M : Mem) (a0 : Nat) (p1 : Int32) : Option (Mem × Int32) :=
  if p1 < 8 then (grd (okO M 7 a0) (Option.bind (f_X7_next M a0) (fun q2 => Option.bind (g_X7_test q2 a0 (p1 + 1)) (fun q7 => if q7.2 = 0 then (some (q7.1, 0)) else (if (mI q7.1 a0 8) = 41 then (Option.bind (f_X7_next q7.1 a0) (fun q12 => some (q12, 1))) else (Option.bind (f_X7_fail q7.1 a0) (fun q17 => grd (bl q17.2) (some (q17.1, q17.2))))))))) else (grd (okO M 7 a0) (Option.bind (f_X7_fail M a0) (fun q24 => grd (bl q24.2) (some (q24.1, q24.2)))))
set_option maxRecDepth 100000 in
set_option maxHeartbeats 8000000 in
theorem t_X7_inRound {d : Nat} {g_X7_test : Mem → Nat → Int32 → Option (Mem × Int32)} {l : Launch} {G : Gh} {M : Mem} {a0 : Nat} {p1 : Int32} {q : Mem × Int32} (hg_X7_test : ∀ X : Ctx, xG X = G → xl X = l → ∀ (M : Mem) (a0 : Nat) (p1 : Int32) (q : Mem × Int32), g_X7_test M a0 p1 = some q → Ctr (xl X) (xG X) yX7_test (Y_X7_test d) M [.ref (gh (xG X) + a0), .int p1] q.1 (some (.int q.2))) (h : b_X7_inRound g_X7_test M a0 p1 = some q) : Ctr l G yX7_inRound (Y_X7_inRound (d + 1)) M [.ref (gh G + a0), .int p1] q.1 (some (.int q.2)) := by
  refine Ctr.of (Y := (Y_X7_inRound (d + 1))) (L := [some (.ref (gh G + a0)), some (.int p1)]) (t := Option.bind (b_X7_inRound g_X7_test M a0 p1) (fun q => some (q.1, some (.int q.2)))) (by decide) rfl rfl (nle rfl) (Lof_in 0 _ rfl) (fun X hG hl => ?_) (by rw [h]; rfl)
  subst hG
  subst hl
  unfold b_X7_inRound
  refine s_iload_n (pc := 0) 1 dX7_inRound_0 rfl rfl ?_
  refine s_bipush (pc := 1) 8 dX7_inRound_1 kb_8 ?_
  refine s_iclt (pc := 3) 11 dX7_inRound_3 rfl ?_ ?_
  · refine s_aload_n (pc := 11) 0 dX7_inRound_11 rfl rfl ?_
    refine s_grd (fun o1 => ?_)
    refine s_bind (fun q2 hq3 => ?_)
    have hC4 := t_X7_next (l := xl X) (G := xG X) hq3
    refine s_callV (pc := 12) (As := []) (st := []) (nlt rfl) (q := (RX7, TX7, 10)) rfl rfl o1 cl_X7_next wi_X7_next wl_X7_next km_X7_79 rfl rfl (Nat.le_trans (nle rfl : _ ≤ 105) (Nat.le_add_right 105 _)) (nle rfl) (nle rfl) dX7_inRound_12 hC4 ?_
    have h5 := hC4.1 X
    have o6 := h5.ok o1
    show S0 X _ q2 15 [some (.ref (gh (xG X) + a0)), some (.int p1)] [] _
    refine s_aload_n (pc := 15) 0 dX7_inRound_15 rfl rfl ?_
    refine s_iload_n (pc := 16) 1 dX7_inRound_16 rfl rfl ?_
    refine s_iconst (pc := 17) 1 dX7_inRound_17 kc_1 ?_
    refine s_iadd (pc := 18) dX7_inRound_18 ?_
    refine s_bind (fun q7 hq8 => ?_)
    have hC9 := hg_X7_test X rfl rfl q2 a0 (p1 + 1) q7 hq8
    refine s_callV (pc := 19) (As := [.int (p1 + 1)]) (st := []) (nlt rfl) (q := (RX7, TX7, 10)) rfl rfl o6 cl_X7_test wi_X7_test wl_X7_test km_X7_129 rfl rfl (Nat.le_refl _) (nle rfl) (nle rfl) dX7_inRound_19 hC9 ?_
    have h10 := hC9.1 X
    have o11 := h10.ok o6
    show S0 X _ q7.1 22 [some (.ref (gh (xG X) + a0)), some (.int p1)] [.int q7.2] _
    refine s_ifne (pc := 22) 27 dX7_inRound_22 rfl ?_ ?_
    · refine s_aload_n (pc := 27) 0 dX7_inRound_27 rfl rfl ?_
      refine s_geti (pc := 28) F_7 8 rfl o11 dX7_inRound_28 kf_X7_66 ?_
      refine s_bipush (pc := 31) 41 dX7_inRound_31 kb_41 ?_
      refine s_iceq (pc := 33) 41 dX7_inRound_33 rfl ?_ ?_
      · refine s_aload_n (pc := 41) 0 dX7_inRound_41 rfl rfl ?_
        refine s_bind (fun q12 hq13 => ?_)
        have hC14 := t_X7_next (l := xl X) (G := xG X) hq13
        refine s_callV (pc := 42) (As := []) (st := []) (nlt rfl) (q := (RX7, TX7, 10)) rfl rfl o11 cl_X7_next wi_X7_next wl_X7_next km_X7_79 rfl rfl (Nat.le_trans (nle rfl : _ ≤ 105) (Nat.le_add_right 105 _)) (nle rfl) (nle rfl) dX7_inRound_42 hC14 ?_
        have h15 := hC14.1 X
        have o16 := h15.ok o11
        show S0 X _ q12 45 [some (.ref (gh (xG X) + a0)), some (.int p1)] [] _
        refine s_iconst (pc := 45) 1 dX7_inRound_45 kc_1 ?_
        exact s_zret rfl rfl dX7_inRound_46
      · refine s_aload_n (pc := 36) 0 dX7_inRound_36 rfl rfl ?_
        refine s_bind (fun q17 hq18 => ?_)
        have hC19 := t_X7_fail (l := xl X) (G := xG X) hq18
        refine s_callV (pc := 37) (As := []) (st := []) (nlt rfl) (q := (RX7, TX7, 10)) rfl rfl o11 cl_X7_fail wi_X7_fail wl_X7_fail km_X7_76 rfl rfl (Nat.le_trans (nle rfl : _ ≤ 105) (Nat.le_add_right 105 _)) (nle rfl) (nle rfl) dX7_inRound_37 hC19 ?_
        have h20 := hC19.1 X
        have o21 := h20.ok o11
        show S0 X _ q17.1 40 [some (.ref (gh (xG X) + a0)), some (.int p1)] [.int q17.2] _
        refine s_grd (fun g22 => ?_)
        exact s_zret rfl g22 dX7_inRound_40
    · refine s_iconst (pc := 25) 0 dX7_inRound_25 kc_0 ?_
      exact s_zret rfl rfl dX7_inRound_26
  · refine s_aload_n (pc := 6) 0 dX7_inRound_6 rfl rfl ?_
    refine s_grd (fun o23 => ?_)
    refine s_bind (fun q24 hq25 => ?_)
    have hC26 := t_X7_fail (l := xl X) (G := xG X) hq25
    refine s_callV (pc := 7) (As := []) (st := []) (nlt rfl) (q := (RX7, TX7, 10)) rfl rfl o23 cl_X7_fail wi_X7_fail wl_X7_fail km_X7_76 rfl rfl (Nat.le_trans (nle rfl : _ ≤ 105) (Nat.le_add_right 105 _)) (nle rfl) (nle rfl) dX7_inRound_7 hC26 ?_
    have h27 := hC26.1 X
    have o28 := h27.ok o23
    show S0 X _ q24.1 10 [some (.ref (gh (xG X) + a0)), some (.int p1)] [.int q24.2] _
    refine s_grd (fun g29 => ?_)
    exact s_zret rfl g29 dX7_inRound_10
set_option maxRecDepth 100000 in
set_option maxHeartbeats 8000000 in
noncomputable def b_X7_plain (g_X7_inRound : Mem → Nat → Int32 → Option (Mem × Int32)) (M : Mem) (a0 : Nat) (p1 : Int32) : Option (Mem × Int32) :=
  Option.bind (loopO (σ := Mem × Int32 × Int32) (ρ := Mem × Int32) (fun s1 => if 400 ≤ s1.2.2 then (some (.inr (s1.1, s1.2.1))) else (grd (okO s1.1 7 a0) (if (mI s1.1 a0 8) = 265 then (bv (fun (s11 : Int32) => Option.bind (f_X7_next s1.1 a0) (fun q14 => bv (s1.2.2 + 1 : Int32) (fun x19 => some (.inl (q14, s11, x19))))) (fun j10 => if s1.2.1 = 0 then (j10 1) else (j10 0))) else (some (.inr (s1.1, s1.2.1)))))) (M, 0, 0)) (fun (x7 : Mem × Int32) => grd (okO x7.1 7 a0) (bv (fun (s22 : Mem) => if x7.2 = 0 then (some (s22, 1)) else (Option.bind (mR s22 a0 3) (fun r26 => grd (okO s22 9 r26) (Option.bind (f_X9_emit s22 r26 11 0) (fun q28 => some (q28.1, 1)))))) (fun j21 => if (mI x7.1 a0 8) = 40 then (Option.bind (g_X7_inRound x7.1 a0 p1) (fun q38 => if q38.2 = 0 then (some (q38.1, 0)) else (j21 q38.1))) else (Option.bind (f_X7_comparison x7.1 a0 p1) (fun q33 => if q33.2 = 0 then (some (q33.1, 0)) else (j21 q33.1))))))
set_option maxRecDepth 100000 in
set_option maxHeartbeats 8000000 in
theorem t_X7_plain {d : Nat} {g_X7_inRound : Mem → Nat → Int32 → Option (Mem × Int32)} {l : Launch} {G : Gh} {M : Mem} {a0 : Nat} {p1 : Int32} {q : Mem × Int32} (hg_X7_inRound : ∀ X : Ctx, xG X = G → xl X = l → ∀ (M : Mem) (a0 : Nat) (p1 : Int32) (q : Mem × Int32), g_X7_inRound M a0 p1 = some q → Ctr (xl X) (xG X) yX7_inRound (Y_X7_inRound d) M [.ref (gh (xG X) + a0), .int p1] q.1 (some (.int q.2))) (h : b_X7_plain g_X7_inRound M a0 p1 = some q) : Ctr l G yX7_plain (Y_X7_plain (d + 1)) M [.ref (gh G + a0), .int p1] q.1 (some (.int q.2)) := by
  refine Ctr.of (Y := (Y_X7_plain (d + 1))) (L := [some (.ref (gh G + a0)), some (.int p1), none, none]) (t := Option.bind (b_X7_plain g_X7_inRound M a0 p1) (fun q => some (q.1, some (.int q.2)))) (by decide) rfl rfl (nle rfl) (Lof_in 2 _ rfl) (fun X hG hl => ?_) (by rw [h]; rfl)
  subst hG
  subst hl
  unfold b_X7_plain
  refine s_iconst (pc := 0) 0 dX7_plain_0 kc_0 ?_
  refine s_istore_n (pc := 1) 2 dX7_plain_1 rfl (nlt rfl) rfl (L' := [some (.ref (gh (xG X) + a0)), some (.int p1), some (.int 0), none]) rfl ?_
  refine s_iconst (pc := 2) 0 dX7_plain_2 kc_0 ?_
  refine s_istore_n (pc := 3) 3 dX7_plain_3 rfl (nlt rfl) rfl (L' := [some (.ref (gh (xG X) + a0)), some (.int p1), some (.int 0), some (.int 0)]) rfl ?_
  refine s_drop (L' := [some (.ref (gh (xG X) + a0)), some (.int p1), some (.int 0), some (.int 0)]) ?_ (And.intro rfl (And.intro rfl (And.intro rfl (And.intro rfl trivial))))
  refine s_loop1 M (fun s1 : Mem × Int32 × Int32 => s1.1) (fun s1 : Mem × Int32 × Int32 => [some (.ref (gh (xG X) + a0)), some (.int p1), some (.int s1.2.1), some (.int s1.2.2)]) (fun x7 : Mem × Int32 => x7.1) 41 (fun x7 : Mem × Int32 => [some (.ref (gh (xG X) + a0)), some (.int p1), some (.int x7.2), none]) (fun x7 hx8 => ?_) (fun T3 R5 hT4 hR6 s1 hs2 => ?_) (M, 0, 0) Le.rf
  · show S0 X _ x7.1 41 [some (.ref (gh (xG X) + a0)), some (.int p1), some (.int x7.2), none] [] _
    refine s_aload_n (pc := 41) 0 dX7_plain_41 rfl rfl ?_
    refine s_grd (fun o20 => ?_)
    refine s_geti (pc := 42) F_7 8 rfl o20 dX7_plain_42 kf_X7_66 ?_
    refine s_bipush (pc := 45) 40 dX7_plain_45 kb_40 ?_
    refine s_join x7.1 (fun s22 : Mem => s22) 71 (fun s22 : Mem => [some (.ref (gh (xG X) + a0)), none, some (.int x7.2), none]) (fun s22 : Mem => []) (fun s22 hs23 => ?_) (fun j21 hj24 => ?_)
    · show S0 X _ s22 71 [some (.ref (gh (xG X) + a0)), none, some (.int x7.2), none] [] _
      have o25 := hs23.ok o20
      refine s_iload_n (pc := 71) 2 dX7_plain_71 rfl rfl ?_
      refine s_ifeq (pc := 72) 86 dX7_plain_72 rfl ?_ ?_
      · refine s_iconst (pc := 86) 1 dX7_plain_86 kc_1 ?_
        exact s_zret rfl rfl dX7_plain_87
      · refine s_aload_n (pc := 75) 0 dX7_plain_75 rfl rfl ?_
        refine s_geto (pc := 76) F_7 3 rfl o25 dX7_plain_76 kf_X7_26 ?_
        refine s_rvB (fun r26 => ?_)
        refine s_bipush (pc := 79) 11 dX7_plain_79 kb_11 ?_
        refine s_iconst (pc := 81) 0 dX7_plain_81 kc_0 ?_
        refine s_grd (fun o27 => ?_)
        refine s_bind (fun q28 hq29 => ?_)
        have hC30 := t_X9_emit (l := xl X) (G := xG X) hq29
        refine s_callV (pc := 82) (As := [.int 11, .int 0]) (st := []) (nlt rfl) (q := (RX9, TX9, 5)) rfl rfl o27 cl_X9_emit wi_X9_emit wl_X9_emit km_X7_134 rfl rfl (Nat.le_trans (nle rfl : _ ≤ 105) (Nat.le_add_right 105 _)) (nle rfl) (nle rfl) dX7_plain_82 hC30 ?_
        have h31 := hC30.1 X
        have o32 := h31.ok o25
        show S0 X _ q28.1 85 [some (.ref (gh (xG X) + a0)), none, some (.int x7.2), none] [.int q28.2] _
        refine s_pop (pc := 85) dX7_plain_85 rfl ?_
        refine s_iconst (pc := 86) 1 dX7_plain_86 kc_1 ?_
        exact s_zret rfl rfl dX7_plain_87
    · refine s_icne (pc := 47) 61 dX7_plain_47 rfl ?_ ?_
      · refine s_aload_n (pc := 61) 0 dX7_plain_61 rfl rfl ?_
        refine s_iload_n (pc := 62) 1 dX7_plain_62 rfl rfl ?_
        refine s_bind (fun q33 hq34 => ?_)
        have hC35 := t_X7_comparison (l := xl X) (G := xG X) hq34
        refine s_callV (pc := 63) (As := [.int p1]) (st := []) (nlt rfl) (q := (RX7, TX7, 10)) rfl rfl o20 cl_X7_comparison wi_X7_comparison wl_X7_comparison km_X7_152 rfl rfl (Nat.le_trans (nle rfl : _ ≤ 105) (Nat.le_add_right 105 _)) (nle rfl) (nle rfl) dX7_plain_63 hC35 ?_
        have h36 := hC35.1 X
        have o37 := h36.ok o20
        show S0 X _ q33.1 66 [some (.ref (gh (xG X) + a0)), some (.int p1), some (.int x7.2), none] [.int q33.2] _
        refine s_ifne (pc := 66) 71 dX7_plain_66 rfl ?_ ?_
        · exact s_drop (hj24 q33.1 h36) (And.intro rfl (And.intro rfl trivial))
        · refine s_iconst (pc := 69) 0 dX7_plain_69 kc_0 ?_
          exact s_zret rfl rfl dX7_plain_70
      · refine s_aload_n (pc := 50) 0 dX7_plain_50 rfl rfl ?_
        refine s_iload_n (pc := 51) 1 dX7_plain_51 rfl rfl ?_
        refine s_bind (fun q38 hq39 => ?_)
        have hC40 := hg_X7_inRound X rfl rfl x7.1 a0 p1 q38 hq39
        refine s_callV (pc := 52) (As := [.int p1]) (st := []) (nlt rfl) (q := (RX7, TX7, 10)) rfl rfl o20 cl_X7_inRound wi_X7_inRound wl_X7_inRound km_X7_149 rfl rfl (Nat.le_refl _) (nle rfl) (nle rfl) dX7_plain_52 hC40 ?_
        have h41 := hC40.1 X
        have o42 := h41.ok o20
        show S0 X _ q38.1 55 [some (.ref (gh (xG X) + a0)), some (.int p1), some (.int x7.2), none] [.int q38.2] _
        refine s_ifeq (pc := 55) 69 dX7_plain_55 rfl ?_ ?_
        · refine s_iconst (pc := 69) 0 dX7_plain_69 kc_0 ?_
          exact s_zret rfl rfl dX7_plain_70
        · refine s_goto (pc := 58) 71 dX7_plain_58 rfl ?_
          exact s_drop (hj24 q38.1 h41) (And.intro rfl (And.intro rfl trivial))
  · show S0 X _ s1.1 4 [some (.ref (gh (xG X) + a0)), some (.int p1), some (.int s1.2.1), some (.int s1.2.2)] [] _
    refine s_iload_n (pc := 4) 3 dX7_plain_4 rfl rfl ?_
    refine s_sipush (pc := 5) 400 dX7_plain_5 ks_400 ?_
    refine s_icge (pc := 8) 41 dX7_plain_8 rfl ?_ ?_
    · exact s_drop (hR6 (s1.1, s1.2.1) hs2) (And.intro rfl (And.intro rfl (And.intro rfl trivial)))
    · refine s_aload_n (pc := 11) 0 dX7_plain_11 rfl rfl ?_
      refine s_grd (fun o9 => ?_)
      refine s_geti (pc := 12) F_7 8 rfl o9 dX7_plain_12 kf_X7_66 ?_
      refine s_sipush (pc := 15) 265 dX7_plain_15 ks_265 ?_
      refine s_icne (pc := 18) 41 dX7_plain_18 rfl ?_ ?_
      · exact s_drop (hR6 (s1.1, s1.2.1) hs2) (And.intro rfl (And.intro rfl (And.intro rfl trivial)))
      · refine s_iload_n (pc := 21) 2 dX7_plain_21 rfl rfl ?_
        refine s_join s1.1 (fun s11 : Int32 => s1.1) 30 (fun s11 : Int32 => [some (.ref (gh (xG X) + a0)), some (.int p1), none, some (.int s1.2.2)]) (fun s11 : Int32 => [.int s11]) (fun s11 hs12 => ?_) (fun j10 hj13 => ?_)
        · show S0 X _ s1.1 30 [some (.ref (gh (xG X) + a0)), some (.int p1), none, some (.int s1.2.2)] [.int s11] _
          refine s_istore_n (pc := 30) 2 dX7_plain_30 rfl (nlt rfl) rfl (L' := [some (.ref (gh (xG X) + a0)), some (.int p1), some (.int s11), some (.int s1.2.2)]) rfl ?_
          refine s_aload_n (pc := 31) 0 dX7_plain_31 rfl rfl ?_
          refine s_bind (fun q14 hq15 => ?_)
          have hC16 := t_X7_next (l := xl X) (G := xG X) hq15
          refine s_callV (pc := 32) (As := []) (st := []) (nlt rfl) (q := (RX7, TX7, 10)) rfl rfl o9 cl_X7_next wi_X7_next wl_X7_next km_X7_79 rfl rfl (Nat.le_trans (nle rfl : _ ≤ 105) (Nat.le_add_right 105 _)) (nle rfl) (nle rfl) dX7_plain_32 hC16 ?_
          have h17 := hC16.1 X
          have o18 := h17.ok o9
          show S0 X _ q14 35 [some (.ref (gh (xG X) + a0)), some (.int p1), some (.int s11), some (.int s1.2.2)] [] _
          refine s_iinc (pc := 35) dX7_plain_35 rfl (v := s1.2.2 + 1) (congrArg (fun z : Int32 => s1.2.2 + z) kc_1) (nlt rfl) rfl (L' := [some (.ref (gh (xG X) + a0)), some (.int p1), some (.int s11), some (.int (s1.2.2 + 1))]) rfl ?_
          refine s_bv (fun x19 : Int32 => [some (.ref (gh (xG X) + a0)), some (.int p1), some (.int s11), some (.int x19)]) (fun x19 => ?_) rfl
          refine s_goto (pc := 38) 4 dX7_plain_38 rfl ?_
          exact s_drop (hT4 (q14, s11, x19) (hs2.tr h17)) (And.intro rfl (And.intro rfl (And.intro rfl (And.intro rfl trivial))))
        · refine s_ifne (pc := 22) 29 dX7_plain_22 rfl ?_ ?_
          · refine s_iconst (pc := 29) 0 dX7_plain_29 kc_0 ?_
            exact s_drop (hj13 0 Le.rf) (And.intro rfl (And.intro rfl (And.intro rfl trivial)))
          · refine s_iconst (pc := 25) 1 dX7_plain_25 kc_1 ?_
            refine s_goto (pc := 26) 30 dX7_plain_26 rfl ?_
            exact s_drop (hj13 1 Le.rf) (And.intro rfl (And.intro rfl (And.intro rfl trivial)))
set_option maxRecDepth 100000 in
set_option maxHeartbeats 8000000 in
noncomputable def b_X7_test (g_X7_both : Mem → Nat → Int32 → Option (Mem × Int32)) (M : Mem) (a0 : Nat) (p1 : Int32) : Option (Mem × Int32) :=
  grd (okO M 7 a0) (Option.bind (g_X7_both M a0 p1) (fun q2 => if q2.2 = 0 then (some (q2.1, 0)) else (Option.bind (loopO (σ := Mem × Int32) (ρ := Mem ⊕ Mem) (fun s7 => if 400 ≤ s7.2 then (some (.inr (.inl s7.1))) else (if (mI s7.1 a0 8) = 263 then (Option.bind (mR s7.1 a0 3) (fun r20 => grd (okO s7.1 9 r20) (Option.bind (f_X9_emit s7.1 r20 12 0) (fun q22 => Option.bind (f_X7_next q22.1 a0) (fun q27 => Option.bind (g_X7_both q27 a0 p1) (fun q32 => if q32.2 = 0 then (some (.inr (.inr q32.1))) else (Option.bind (mR q32.1 a0 3) (fun r37 => grd (okO q32.1 9 r37) (Option.bind (f_X9_aim q32.1 r37 q22.2) (fun q39 => bv (s7.2 + 1 : Int32) (fun x44 => some (.inl (q39, x44))))))))))))) else (some (.inr (.inl s7.1))))) (q2.1, 0)) (Sum.elim (fun (x16 : Mem) => some (x16, 1)) (fun (x18 : Mem) => some (x18, 0))))))
set_option maxRecDepth 100000 in
set_option maxHeartbeats 8000000 in
theorem t_X7_test {d : Nat} {g_X7_both : Mem → Nat → Int32 → Option (Mem × Int32)} {l : Launch} {G : Gh} {M : Mem} {a0 : Nat} {p1 : Int32} {q : Mem × Int32} (hg_X7_both : ∀ X : Ctx, xG X = G → xl X = l → ∀ (M : Mem) (a0 : Nat) (p1 : Int32) (q : Mem × Int32), g_X7_both M a0 p1 = some q → Ctr (xl X) (xG X) yX7_both (Y_X7_both d) M [.ref (gh (xG X) + a0), .int p1] q.1 (some (.int q.2))) (h : b_X7_test g_X7_both M a0 p1 = some q) : Ctr l G yX7_test (Y_X7_test (d + 1)) M [.ref (gh G + a0), .int p1] q.1 (some (.int q.2)) := by
  refine Ctr.of (Y := (Y_X7_test (d + 1))) (L := [some (.ref (gh G + a0)), some (.int p1), none, none]) (t := Option.bind (b_X7_test g_X7_both M a0 p1) (fun q => some (q.1, some (.int q.2)))) (by decide) rfl rfl (nle rfl) (Lof_in 2 _ rfl) (fun X hG hl => ?_) (by rw [h]; rfl)
  subst hG
  subst hl
  unfold b_X7_test
  refine s_aload_n (pc := 0) 0 dX7_test_0 rfl rfl ?_
  refine s_iload_n (pc := 1) 1 dX7_test_1 rfl rfl ?_
  refine s_grd (fun o1 => ?_)
  refine s_bind (fun q2 hq3 => ?_)
  have hC4 := hg_X7_both X rfl rfl M a0 p1 q2 hq3
  refine s_callV (pc := 2) (As := [.int p1]) (st := []) (nlt rfl) (q := (RX7, TX7, 10)) rfl rfl o1 cl_X7_both wi_X7_both wl_X7_both km_X7_140 rfl rfl (Nat.le_refl _) (nle rfl) (nle rfl) dX7_test_2 hC4 ?_
  have h5 := hC4.1 X
  have o6 := h5.ok o1
  show S0 X _ q2.1 5 [some (.ref (gh (xG X) + a0)), some (.int p1), none, none] [.int q2.2] _
  refine s_ifne (pc := 5) 10 dX7_test_5 rfl ?_ ?_
  · refine s_iconst (pc := 10) 0 dX7_test_10 kc_0 ?_
    refine s_istore_n (pc := 11) 2 dX7_test_11 rfl (nlt rfl) rfl (L' := [some (.ref (gh (xG X) + a0)), some (.int p1), some (.int 0), none]) rfl ?_
    refine s_drop (L' := [some (.ref (gh (xG X) + a0)), some (.int p1), some (.int 0), none]) ?_ (And.intro rfl (And.intro rfl (And.intro rfl trivial)))
    refine s_loop2 q2.1 (fun s7 : Mem × Int32 => s7.1) (fun s7 : Mem × Int32 => [some (.ref (gh (xG X) + a0)), some (.int p1), some (.int s7.2), none]) (fun x16 : Mem => x16) 68 (fun x16 : Mem => [none, none, none, none]) (fun x18 : Mem => x18) 52 (fun x18 : Mem => [none, none, none, none]) (fun x16 hx17 => ?_) (fun x18 hx19 => ?_) (fun T9 R11 R13 hT10 hR12 hR14 s7 hs8 => ?_) (q2.1, 0) Le.rf
    · show S0 X _ x16 68 [none, none, none, none] [] _
      refine s_iconst (pc := 68) 1 dX7_test_68 kc_1 ?_
      exact s_zret rfl rfl dX7_test_69
    · show S0 X _ x18 52 [none, none, none, none] [] _
      refine s_iconst (pc := 52) 0 dX7_test_52 kc_0 ?_
      exact s_zret rfl rfl dX7_test_53
    · show S0 X _ s7.1 12 [some (.ref (gh (xG X) + a0)), some (.int p1), some (.int s7.2), none] [] _
      have o15 := hs8.ok o6
      refine s_iload_n (pc := 12) 2 dX7_test_12 rfl rfl ?_
      refine s_sipush (pc := 13) 400 dX7_test_13 ks_400 ?_
      refine s_icge (pc := 16) 68 dX7_test_16 rfl ?_ ?_
      · exact s_drop (hR12 s7.1 hs8) trivial
      · refine s_aload_n (pc := 19) 0 dX7_test_19 rfl rfl ?_
        refine s_geti (pc := 20) F_7 8 rfl o15 dX7_test_20 kf_X7_66 ?_
        refine s_sipush (pc := 23) 263 dX7_test_23 ks_263 ?_
        refine s_icne (pc := 26) 68 dX7_test_26 rfl ?_ ?_
        · exact s_drop (hR12 s7.1 hs8) trivial
        · refine s_aload_n (pc := 29) 0 dX7_test_29 rfl rfl ?_
          refine s_geto (pc := 30) F_7 3 rfl o15 dX7_test_30 kf_X7_26 ?_
          refine s_rvB (fun r20 => ?_)
          refine s_bipush (pc := 33) 12 dX7_test_33 kb_12 ?_
          refine s_iconst (pc := 35) 0 dX7_test_35 kc_0 ?_
          refine s_grd (fun o21 => ?_)
          refine s_bind (fun q22 hq23 => ?_)
          have hC24 := t_X9_emit (l := xl X) (G := xG X) hq23
          refine s_callV (pc := 36) (As := [.int 12, .int 0]) (st := []) (nlt rfl) (q := (RX9, TX9, 5)) rfl rfl o21 cl_X9_emit wi_X9_emit wl_X9_emit km_X7_134 rfl rfl (Nat.le_trans (nle rfl : _ ≤ 105) (Nat.le_add_right 105 _)) (nle rfl) (nle rfl) dX7_test_36 hC24 ?_
          have h25 := hC24.1 X
          have o26 := h25.ok o15
          show S0 X _ q22.1 39 [some (.ref (gh (xG X) + a0)), some (.int p1), some (.int s7.2), none] [.int q22.2] _
          refine s_istore_n (pc := 39) 3 dX7_test_39 rfl (nlt rfl) rfl (L' := [some (.ref (gh (xG X) + a0)), some (.int p1), some (.int s7.2), some (.int q22.2)]) rfl ?_
          refine s_aload_n (pc := 40) 0 dX7_test_40 rfl rfl ?_
          refine s_bind (fun q27 hq28 => ?_)
          have hC29 := t_X7_next (l := xl X) (G := xG X) hq28
          refine s_callV (pc := 41) (As := []) (st := []) (nlt rfl) (q := (RX7, TX7, 10)) rfl rfl o26 cl_X7_next wi_X7_next wl_X7_next km_X7_79 rfl rfl (Nat.le_trans (nle rfl : _ ≤ 105) (Nat.le_add_right 105 _)) (nle rfl) (nle rfl) dX7_test_41 hC29 ?_
          have h30 := hC29.1 X
          have o31 := h30.ok o26
          show S0 X _ q27 44 [some (.ref (gh (xG X) + a0)), some (.int p1), some (.int s7.2), some (.int q22.2)] [] _
          refine s_aload_n (pc := 44) 0 dX7_test_44 rfl rfl ?_
          refine s_iload_n (pc := 45) 1 dX7_test_45 rfl rfl ?_
          refine s_bind (fun q32 hq33 => ?_)
          have hC34 := hg_X7_both X rfl rfl q27 a0 p1 q32 hq33
          refine s_callV (pc := 46) (As := [.int p1]) (st := []) (nlt rfl) (q := (RX7, TX7, 10)) rfl rfl o31 cl_X7_both wi_X7_both wl_X7_both km_X7_140 rfl rfl (Nat.le_refl _) (nle rfl) (nle rfl) dX7_test_46 hC34 ?_
          have h35 := hC34.1 X
          have o36 := h35.ok o31
          show S0 X _ q32.1 49 [some (.ref (gh (xG X) + a0)), some (.int p1), some (.int s7.2), some (.int q22.2)] [.int q32.2] _
          refine s_ifne (pc := 49) 54 dX7_test_49 rfl ?_ ?_
          · refine s_aload_n (pc := 54) 0 dX7_test_54 rfl rfl ?_
            refine s_geto (pc := 55) F_7 3 rfl o36 dX7_test_55 kf_X7_26 ?_
            refine s_rvB (fun r37 => ?_)
            refine s_iload_n (pc := 58) 3 dX7_test_58 rfl rfl ?_
            refine s_grd (fun o38 => ?_)
            refine s_bind (fun q39 hq40 => ?_)
            have hC41 := t_X9_aim (l := xl X) (G := xG X) hq40
            refine s_callV (pc := 59) (As := [.int q22.2]) (st := []) (nlt rfl) (q := (RX9, TX9, 5)) rfl rfl o38 cl_X9_aim wi_X9_aim wl_X9_aim km_X7_143 rfl rfl (Nat.le_trans (nle rfl : _ ≤ 105) (Nat.le_add_right 105 _)) (nle rfl) (nle rfl) dX7_test_59 hC41 ?_
            have h42 := hC41.1 X
            have o43 := h42.ok o36
            show S0 X _ q39 62 [some (.ref (gh (xG X) + a0)), some (.int p1), some (.int s7.2), some (.int q22.2)] [] _
            refine s_iinc (pc := 62) dX7_test_62 rfl (v := s7.2 + 1) (congrArg (fun z : Int32 => s7.2 + z) kc_1) (nlt rfl) rfl (L' := [some (.ref (gh (xG X) + a0)), some (.int p1), some (.int (s7.2 + 1)), some (.int q22.2)]) rfl ?_
            refine s_bv (fun x44 : Int32 => [some (.ref (gh (xG X) + a0)), some (.int p1), some (.int x44), some (.int q22.2)]) (fun x44 => ?_) rfl
            refine s_goto (pc := 65) 12 dX7_test_65 rfl ?_
            exact s_drop (hT10 (q39, x44) (hs8.tr (h25.tr (h30.tr (h35.tr h42))))) (And.intro rfl (And.intro rfl (And.intro rfl trivial)))
          · exact s_drop (hR14 q32.1 (hs8.tr (h25.tr (h30.tr h35)))) trivial
  · refine s_iconst (pc := 8) 0 dX7_test_8 kc_0 ?_
    exact s_zret rfl rfl dX7_test_9
noncomputable def G_X7_both : Nat → (Mem → Nat → Int32 → Option (Mem × Int32)) × (Mem → Nat → Int32 → Option (Mem × Int32)) × (Mem → Nat → Int32 → Option (Mem × Int32)) × (Mem → Nat → Int32 → Option (Mem × Int32))
  | 0 => ((fun _ _ _ => none), (fun _ _ _ => none), (fun _ _ _ => none), (fun _ _ _ => none))
  | d + 1 => (b_X7_both ((G_X7_both d).2.2.1), b_X7_inRound ((G_X7_both d).2.2.2), b_X7_plain ((G_X7_both d).2.1), b_X7_test ((G_X7_both d).1))
noncomputable def f_X7_both (d : Nat) : Mem → Nat → Int32 → Option (Mem × Int32) := (G_X7_both d).1
noncomputable def f_X7_inRound (d : Nat) : Mem → Nat → Int32 → Option (Mem × Int32) := (G_X7_both d).2.1
noncomputable def f_X7_plain (d : Nat) : Mem → Nat → Int32 → Option (Mem × Int32) := (G_X7_both d).2.2.1
noncomputable def f_X7_test (d : Nat) : Mem → Nat → Int32 → Option (Mem × Int32) := (G_X7_both d).2.2.2
set_option maxRecDepth 100000 in
theorem tg_X7_both {l : Launch} {G : Gh} : ∀ d : Nat, (∀ (M : Mem) (a0 : Nat) (p1 : Int32) (q : Mem × Int32), f_X7_both d M a0 p1 = some q → Ctr l G yX7_both (Y_X7_both d) M [.ref (gh G + a0), .int p1] q.1 (some (.int q.2))) ∧ (∀ (M : Mem) (a0 : Nat) (p1 : Int32) (q : Mem × Int32), f_X7_inRound d M a0 p1 = some q → Ctr l G yX7_inRound (Y_X7_inRound d) M [.ref (gh G + a0), .int p1] q.1 (some (.int q.2))) ∧ (∀ (M : Mem) (a0 : Nat) (p1 : Int32) (q : Mem × Int32), f_X7_plain d M a0 p1 = some q → Ctr l G yX7_plain (Y_X7_plain d) M [.ref (gh G + a0), .int p1] q.1 (some (.int q.2))) ∧ (∀ (M : Mem) (a0 : Nat) (p1 : Int32) (q : Mem × Int32), f_X7_test d M a0 p1 = some q → Ctr l G yX7_test (Y_X7_test d) M [.ref (gh G + a0), .int p1] q.1 (some (.int q.2))) := by
  intro d
  induction d with
  | zero => refine ⟨?_, ?_, ?_, ?_⟩ <;> (intros; rename_i h; cases h)
  | succ d ih =>
    obtain ⟨h0, h1, h2, h3⟩ := ih
    refine ⟨?_, ?_, ?_, ?_⟩
    · intro M a0 p1 q h
      exact t_X7_both (fun X hG hl => by subst hG; subst hl; exact h2) h
    · intro M a0 p1 q h
      exact t_X7_inRound (fun X hG hl => by subst hG; subst hl; exact h3) h
    · intro M a0 p1 q h
      exact t_X7_plain (fun X hG hl => by subst hG; subst hl; exact h1) h
    · intro M a0 p1 q h
      exact t_X7_test (fun X hG hl => by subst hG; subst hl; exact h0) h
set_option maxRecDepth 100000 in
theorem tf_X7_both {l : Launch} {G : Gh} {M : Mem} {a0 : Nat} {p1 : Int32} {q : Mem × Int32} (h : f_X7_both 100 M a0 p1 = some q) : Ctr l G yX7_both (Y_X7_both 100) M [.ref (gh G + a0), .int p1] q.1 (some (.int q.2)) := (tg_X7_both 100).1 _ _ _ _ h
set_option maxRecDepth 100000 in
theorem tf_X7_inRound {l : Launch} {G : Gh} {M : Mem} {a0 : Nat} {p1 : Int32} {q : Mem × Int32} (h : f_X7_inRound 100 M a0 p1 = some q) : Ctr l G yX7_inRound (Y_X7_inRound 100) M [.ref (gh G + a0), .int p1] q.1 (some (.int q.2)) := (tg_X7_both 100).2.1 _ _ _ _ h
set_option maxRecDepth 100000 in
theorem tf_X7_plain {l : Launch} {G : Gh} {M : Mem} {a0 : Nat} {p1 : Int32} {q : Mem × Int32} (h : f_X7_plain 100 M a0 p1 = some q) : Ctr l G yX7_plain (Y_X7_plain 100) M [.ref (gh G + a0), .int p1] q.1 (some (.int q.2)) := (tg_X7_both 100).2.2.1 _ _ _ _ h
set_option maxRecDepth 100000 in
theorem tf_X7_test {l : Launch} {G : Gh} {M : Mem} {a0 : Nat} {p1 : Int32} {q : Mem × Int32} (h : f_X7_test 100 M a0 p1 = some q) : Ctr l G yX7_test (Y_X7_test 100) M [.ref (gh G + a0), .int p1] q.1 (some (.int q.2)) := (tg_X7_both 100).2.2.2 _ _ _ _ h
set_option maxRecDepth 100000 in
set_option maxHeartbeats 8000000 in
noncomputable def f_X7_how (M : Mem) (a0 : Nat) : Option (Mem × Int32) :=
  grd (okO M 7 a0) (bv (fun (s3 : Unit) => Option.bind (f_X7_fail M a0) (fun q6 => grd (bl q6.2) (some (q6.1, q6.2)))) (fun j2 => if (mI M a0 8) < 267 then (j2 ()) else (if (mI M a0 8) ≤ 271 then (bv ((mI M a0 8) - 267 : Int32) (fun x12 => Option.bind (mR M a0 3) (fun r13 => grd (okO M 9 r13) (Option.bind (f_X9_set M r13 0 x12) (fun q15 => Option.bind (f_X7_next q15 a0) (fun q20 => bv (fun (s26 : Mem) => if (mI s26 a0 8) = 266 then (Option.bind (f_X7_next s26 a0) (fun q30 => Option.bind (f_X7_sumFor q30 a0 5) (fun q35 => grd (bl q35.2) (some (q35.1, q35.2))))) else (Option.bind (f_X7_fail s26 a0) (fun q41 => grd (bl q41.2) (some (q41.1, q41.2))))) (fun j25 => if x12 = 1 then (Option.bind (f_X7_sumFor q20 a0 4) (fun q47 => if q47.2 = 0 then (some (q47.1, 0)) else (j25 q47.1))) else (j25 q20)))))))) else (j2 ()))))
abbrev Y_X7_how : Sta := (RX7, "how", cX7_how, 2, (some .boolean), 105)
set_option maxRecDepth 100000 in
set_option maxHeartbeats 8000000 in
theorem t_X7_how {l : Launch} {G : Gh} {M : Mem} {a0 : Nat} {q : Mem × Int32} (h : f_X7_how M a0 = some q) : Ctr l G yX7_how Y_X7_how M [.ref (gh G + a0)] q.1 (some (.int q.2)) := by
  refine Ctr.of (Y := Y_X7_how) (L := [some (.ref (gh G + a0)), none]) (t := Option.bind (f_X7_how M a0) (fun q => some (q.1, some (.int q.2)))) (by decide) rfl rfl (nle rfl) (Lof_in 1 _ rfl) (fun X hG hl => ?_) (by rw [h]; rfl)
  subst hG
  subst hl
  unfold f_X7_how
  refine s_aload_n (pc := 0) 0 dX7_how_0 rfl rfl ?_
  refine s_grd (fun o1 => ?_)
  refine s_geti (pc := 1) F_7 8 rfl o1 dX7_how_1 kf_X7_66 ?_
  refine s_sipush (pc := 4) 267 dX7_how_4 ks_267 ?_
  refine s_join M (fun s3 : Unit => M) 20 (fun s3 : Unit => [some (.ref (gh (xG X) + a0)), none]) (fun s3 : Unit => []) (fun s3 hs4 => ?_) (fun j2 hj5 => ?_)
  · show S0 X _ M 20 [some (.ref (gh (xG X) + a0)), none] [] _
    refine s_aload_n (pc := 20) 0 dX7_how_20 rfl rfl ?_
    refine s_bind (fun q6 hq7 => ?_)
    have hC8 := t_X7_fail (l := xl X) (G := xG X) hq7
    refine s_callV (pc := 21) (As := []) (st := []) (nlt rfl) (q := (RX7, TX7, 10)) rfl rfl o1 cl_X7_fail wi_X7_fail wl_X7_fail km_X7_76 rfl rfl (nle rfl) (nle rfl) (nle rfl) dX7_how_21 hC8 ?_
    have h9 := hC8.1 X
    have o10 := h9.ok o1
    show S0 X _ q6.1 24 [some (.ref (gh (xG X) + a0)), none] [.int q6.2] _
    refine s_grd (fun g11 => ?_)
    exact s_zret rfl g11 dX7_how_24
  · refine s_iclt (pc := 7) 20 dX7_how_7 rfl ?_ ?_
    · exact s_drop (hj5 () Le.rf) (And.intro rfl trivial)
    · refine s_aload_n (pc := 10) 0 dX7_how_10 rfl rfl ?_
      refine s_geti (pc := 11) F_7 8 rfl o1 dX7_how_11 kf_X7_66 ?_
      refine s_sipush (pc := 14) 271 dX7_how_14 ks_271 ?_
      refine s_icle (pc := 17) 25 dX7_how_17 rfl ?_ ?_
      · refine s_aload_n (pc := 25) 0 dX7_how_25 rfl rfl ?_
        refine s_geti (pc := 26) F_7 8 rfl o1 dX7_how_26 kf_X7_66 ?_
        refine s_sipush (pc := 29) 267 dX7_how_29 ks_267 ?_
        refine s_isub (pc := 32) dX7_how_32 ?_
        refine s_istore_n (pc := 33) 1 dX7_how_33 rfl (nlt rfl) rfl (L' := [some (.ref (gh (xG X) + a0)), some (.int ((mI M a0 8) - 267))]) rfl ?_
        refine s_bv (fun x12 : Int32 => [some (.ref (gh (xG X) + a0)), some (.int x12)]) (fun x12 => ?_) rfl
        refine s_aload_n (pc := 34) 0 dX7_how_34 rfl rfl ?_
        refine s_geto (pc := 35) F_7 3 rfl o1 dX7_how_35 kf_X7_26 ?_
        refine s_rvB (fun r13 => ?_)
        refine s_iconst (pc := 38) 0 dX7_how_38 kc_0 ?_
        refine s_iload_n (pc := 39) 1 dX7_how_39 rfl rfl ?_
        refine s_grd (fun o14 => ?_)
        refine s_bind (fun q15 hq16 => ?_)
        have hC17 := t_X9_set (l := xl X) (G := xG X) hq16
        refine s_callV (pc := 40) (As := [.int 0, .int x12]) (st := []) (nlt rfl) (q := (RX9, TX9, 5)) rfl rfl o14 cl_X9_set wi_X9_set wl_X9_set km_X7_123 rfl rfl (nle rfl) (nle rfl) (nle rfl) dX7_how_40 hC17 ?_
        have h18 := hC17.1 X
        have o19 := h18.ok o1
        show S0 X _ q15 43 [some (.ref (gh (xG X) + a0)), some (.int x12)] [] _
        refine s_aload_n (pc := 43) 0 dX7_how_43 rfl rfl ?_
        refine s_bind (fun q20 hq21 => ?_)
        have hC22 := t_X7_next (l := xl X) (G := xG X) hq21
        refine s_callV (pc := 44) (As := []) (st := []) (nlt rfl) (q := (RX7, TX7, 10)) rfl rfl o19 cl_X7_next wi_X7_next wl_X7_next km_X7_79 rfl rfl (nle rfl) (nle rfl) (nle rfl) dX7_how_44 hC22 ?_
        have h23 := hC22.1 X
        have o24 := h23.ok o19
        show S0 X _ q20 47 [some (.ref (gh (xG X) + a0)), some (.int x12)] [] _
        refine s_iload_n (pc := 47) 1 dX7_how_47 rfl rfl ?_
        refine s_iconst (pc := 48) 1 dX7_how_48 kc_1 ?_
        refine s_join q20 (fun s26 : Mem => s26) 62 (fun s26 : Mem => [some (.ref (gh (xG X) + a0)), none]) (fun s26 : Mem => []) (fun s26 hs27 => ?_) (fun j25 hj28 => ?_)
        · show S0 X _ s26 62 [some (.ref (gh (xG X) + a0)), none] [] _
          have o29 := hs27.ok o24
          refine s_aload_n (pc := 62) 0 dX7_how_62 rfl rfl ?_
          refine s_geti (pc := 63) F_7 8 rfl o29 dX7_how_63 kf_X7_66 ?_
          refine s_sipush (pc := 66) 266 dX7_how_66 ks_266 ?_
          refine s_iceq (pc := 69) 77 dX7_how_69 rfl ?_ ?_
          · refine s_aload_n (pc := 77) 0 dX7_how_77 rfl rfl ?_
            refine s_bind (fun q30 hq31 => ?_)
            have hC32 := t_X7_next (l := xl X) (G := xG X) hq31
            refine s_callV (pc := 78) (As := []) (st := []) (nlt rfl) (q := (RX7, TX7, 10)) rfl rfl o29 cl_X7_next wi_X7_next wl_X7_next km_X7_79 rfl rfl (nle rfl) (nle rfl) (nle rfl) dX7_how_78 hC32 ?_
            have h33 := hC32.1 X
            have o34 := h33.ok o29
            show S0 X _ q30 81 [some (.ref (gh (xG X) + a0)), none] [] _
            refine s_aload_n (pc := 81) 0 dX7_how_81 rfl rfl ?_
            refine s_iconst (pc := 82) 5 dX7_how_82 kc_5 ?_
            refine s_bind (fun q35 hq36 => ?_)
            have hC37 := t_X7_sumFor (l := xl X) (G := xG X) hq36
            refine s_callV (pc := 83) (As := [.int 5]) (st := []) (nlt rfl) (q := (RX7, TX7, 10)) rfl rfl o34 cl_X7_sumFor wi_X7_sumFor wl_X7_sumFor km_X7_114 rfl rfl (nle rfl) (nle rfl) (nle rfl) dX7_how_83 hC37 ?_
            have h38 := hC37.1 X
            have o39 := h38.ok o34
            show S0 X _ q35.1 86 [some (.ref (gh (xG X) + a0)), none] [.int q35.2] _
            refine s_grd (fun g40 => ?_)
            exact s_zret rfl g40 dX7_how_86
          · refine s_aload_n (pc := 72) 0 dX7_how_72 rfl rfl ?_
            refine s_bind (fun q41 hq42 => ?_)
            have hC43 := t_X7_fail (l := xl X) (G := xG X) hq42
            refine s_callV (pc := 73) (As := []) (st := []) (nlt rfl) (q := (RX7, TX7, 10)) rfl rfl o29 cl_X7_fail wi_X7_fail wl_X7_fail km_X7_76 rfl rfl (nle rfl) (nle rfl) (nle rfl) dX7_how_73 hC43 ?_
            have h44 := hC43.1 X
            have o45 := h44.ok o29
            show S0 X _ q41.1 76 [some (.ref (gh (xG X) + a0)), none] [.int q41.2] _
            refine s_grd (fun g46 => ?_)
            exact s_zret rfl g46 dX7_how_76
        · refine s_icne (pc := 49) 62 dX7_how_49 rfl ?_ ?_
          · exact s_drop (hj28 q20 Le.rf) (And.intro rfl trivial)
          · refine s_aload_n (pc := 52) 0 dX7_how_52 rfl rfl ?_
            refine s_iconst (pc := 53) 4 dX7_how_53 kc_4 ?_
            refine s_bind (fun q47 hq48 => ?_)
            have hC49 := t_X7_sumFor (l := xl X) (G := xG X) hq48
            refine s_callV (pc := 54) (As := [.int 4]) (st := []) (nlt rfl) (q := (RX7, TX7, 10)) rfl rfl o24 cl_X7_sumFor wi_X7_sumFor wl_X7_sumFor km_X7_114 rfl rfl (nle rfl) (nle rfl) (nle rfl) dX7_how_54 hC49 ?_
            have h50 := hC49.1 X
            have o51 := h50.ok o24
            show S0 X _ q47.1 57 [some (.ref (gh (xG X) + a0)), some (.int x12)] [.int q47.2] _
            refine s_ifne (pc := 57) 62 dX7_how_57 rfl ?_ ?_
            · exact s_drop (hj28 q47.1 h50) (And.intro rfl trivial)
            · refine s_iconst (pc := 60) 0 dX7_how_60 kc_0 ?_
              exact s_zret rfl rfl dX7_how_61
      · exact s_drop (hj5 () Le.rf) (And.intro rfl trivial)
set_option maxRecDepth 100000 in
set_option maxHeartbeats 8000000 in
noncomputable def f_X12_goesAlong (M : Mem) (a0 : Nat) (p1 : Int32) (p2 : Int32) : Option Mem :=
  grd (okO M 12 a0) (bv (wI M a0 29 1) (fun M2 => bv (wI M2 a0 27 p1) (fun M6 => Option.bind (mR M6 a0 31) (fun r10 => Option.bind (mR M6 a0 3) (fun r11 => grd (okO M6 14 r11) (grd (vp_in 54 (mL M6 r11)) (grd (okO M6 14 r10) (grd (vp_in 0 (mL M6 r10)) (bv (wI M6 r10 (0 : Int32).toNatClampNeg (mI M6 r11 (54 : Int32).toNatClampNeg)) (fun M16 => Option.bind (mR M16 a0 31) (fun r20 => Option.bind (mR M16 a0 3) (fun r21 => grd (okO M16 14 r21) (grd (vp_in 56 (mL M16 r21)) (grd (okO M16 14 r20) (grd (vp_in 1 (mL M16 r20)) (bv (wI M16 r20 (1 : Int32).toNatClampNeg (mI M16 r21 (56 : Int32).toNatClampNeg)) (fun M26 => Option.bind (mR M26 a0 31) (fun r30 => grd (okO M26 14 r30) (grd (vp_in 2 (mL M26 r30)) (bv (wI M26 r30 (2 : Int32).toNatClampNeg (mI M26 a0 47)) (fun M33 => Option.bind (mR M33 a0 31) (fun r37 => grd (okO M33 14 r37) (grd (vp_in 3 (mL M33 r37)) (bv (wI M33 r37 (3 : Int32).toNatClampNeg (mI M33 a0 48)) (fun M40 => bv (wI M40 a0 26 (mI M40 a0 49)) (fun M44 => Option.bind (f_X12_codeAt M44 a0 (mI M44 a0 26)) (fun q48 => bv (wI M44 a0 51 q48) (fun M51 => bv (wI M51 a0 26 ((mI M51 a0 26) + 1)) (fun M55 => bv (wI M55 a0 53 1) (fun M59 => Option.bind (mR M59 a0 55) (fun r63 => grd (okO M59 15 r63) (grd (vp_in 1 (mL M59 r63)) (bv (wJ M59 r63 (1 : Int32).toNatClampNeg 0) (fun M66 => Option.bind (f_X12_nextSum M66 a0 0 p2) (fun q70 => bv (fun (s76 : Mem) => bv (wI s76 a0 50 1) (fun M80 => Option.bind (f_X12_passes0 M80 a0 26) (fun q84 => bv (fun (s90 : Mem) => bv (wI s90 a0 28 0) (fun M94 => Option.bind (f_X12_passes0 M94 a0 3) (fun q98 => bv (fun (s104 : Mem × Int32) => grd (pb s104.2) (bv (wI s104.1 a0 54 s104.2) (fun M108 => bv (fun (s114 : Int32) => grd (pb s114) (bv (wI M108 a0 54 s114) (fun M117 => bv (wI M117 a0 26 ((mI M117 a0 26) + 1)) (fun M122 => some M122)))) (fun j113 => bv (fun (s127 : Unit) => j113 0) (fun j126 => if (mI M108 a0 54) = 0 then (j126 ()) else (if (mI M108 a0 28) = 0 then (j113 1) else (j126 ()))))))) (fun j103 => bv (fun (s131 : Mem) => j103 (s131, 1)) (fun j130 => if q98.2 = 0 then (j130 q98.1) else (Option.bind (f_X12_testOf 100 q98.1 a0 p2) (fun q135 => if q135.2 = 0 then (j103 (q135.1, 0)) else (j130 q135.1)))))))) (fun j89 => if q84.2 = 0 then (j89 q84.1) else (Option.bind (mR q84.1 a0 3) (fun r140 => grd (okO q84.1 14 r140) (grd (vp_in (2866 + (mI q84.1 a0 26)) (mL q84.1 r140)) (bv (wI q84.1 a0 50 (mI q84.1 r140 (2866 + (mI q84.1 a0 26)).toNatClampNeg)) (fun M143 => bv (wI M143 a0 26 ((mI M143 a0 26) + 1)) (fun M147 => j89 M147)))))))))) (fun j75 => if (mI q70 a0 51) = 19 then (Option.bind (f_X12_codeAt q70 a0 (mI q70 a0 26)) (fun q151 => bv (wI q70 a0 26 ((mI q70 a0 26) + 1)) (fun M154 => bv (fun (s159 : Int32) => bv (wI M154 a0 52 s159) (fun M162 => bv (fun (s167 : Mem) => bv (wI s167 a0 26 ((mI s167 a0 26) + 1)) (fun M171 => Option.bind (f_X12_nextSum M171 a0 2 p2) (fun q175 => j75 q175))) (fun j166 => if (mI M162 a0 52) = 1 then (Option.bind (f_X12_nextSum M162 a0 1 p2) (fun q180 => j166 q180)) else (j166 M162)))) (fun j158 => if q151 = 20 then (j158 0) else (if q151 = 24 then (j158 1) else (if q151 = 21 then (j158 2) else (if q151 = 22 then (j158 3) else (j158 4)))))))) else (j75 q70)))))))))))))))))))))))))))))))))))))
abbrev Y_X12_goesAlong : Sta := (RX12, "goesAlong", cX12_goesAlong, 4, none, 205)
set_option maxRecDepth 100000 in
set_option maxHeartbeats 8000000 in
theorem t_X12_goesAlong {l : Launch} {G : Gh} {M : Mem} {a0 : Nat} {p1 : Int32} {p2 : Int32} {q : Mem} (h : f_X12_goesAlong M a0 p1 p2 = some q) : Ctr l G yX12_goesAlong Y_X12_goesAlong M [.ref (gh G + a0), .int p1, .int p2] q (none) := by
  refine Ctr.of (Y := Y_X12_goesAlong) (L := [some (.ref (gh G + a0)), some (.int p1), some (.int p2), none]) (t := Option.bind (f_X12_goesAlong M a0 p1 p2) (fun q => some (q, (none : Option Value)))) (by decide) rfl rfl (nle rfl) (Lof_in 1 _ rfl) (fun X hG hl => ?_) (by rw [h]; rfl)
  subst hG
  subst hl
  unfold f_X12_goesAlong
  refine s_aload_n (pc := 0) 0 dX12_goesAlong_0 rfl rfl ?_
  refine s_iconst (pc := 1) 1 dX12_goesAlong_1 kc_1 ?_
  refine s_grd (fun o1 => ?_)
  refine s_puti (pc := 2) F_12 29 rfl o1 rfl rfl (by decide) dX12_goesAlong_2 kf_X12_339 (fun M2 hM3 => ?_)
  have h4 := le_wI hM3
  have o5 := h4.ok o1
  refine s_aload_n (pc := 5) 0 dX12_goesAlong_5 rfl rfl ?_
  refine s_iload_n (pc := 6) 1 dX12_goesAlong_6 rfl rfl ?_
  refine s_puti (pc := 7) F_12 27 rfl o5 rfl rfl rfl dX12_goesAlong_7 kf_X12_306 (fun M6 hM7 => ?_)
  have h8 := le_wI hM7
  have o9 := h8.ok o5
  refine s_aload_n (pc := 10) 0 dX12_goesAlong_10 rfl rfl ?_
  refine s_geto (pc := 11) F_12 31 rfl o9 dX12_goesAlong_11 kf_X12_64 ?_
  refine s_rvB (fun r10 => ?_)
  refine s_iconst (pc := 14) 0 dX12_goesAlong_14 kc_0 ?_
  refine s_aload_n (pc := 15) 0 dX12_goesAlong_15 rfl rfl ?_
  refine s_geto (pc := 16) F_12 3 rfl o9 dX12_goesAlong_16 kf_X12_20 ?_
  refine s_rvB (fun r11 => ?_)
  refine s_bipush (pc := 19) 54 dX12_goesAlong_19 kb_54 ?_
  refine s_grd (fun o12 => ?_)
  refine s_grd (fun i13 => ?_)
  refine s_iald (pc := 21) o12 i13 dX12_goesAlong_21 ?_
  refine s_grd (fun o14 => ?_)
  refine s_grd (fun i15 => ?_)
  refine s_iast (pc := 22) o14 i15 dX12_goesAlong_22 (fun M16 hM17 => ?_)
  have h18 := le_wI hM17
  have o19 := h18.ok o9
  refine s_aload_n (pc := 23) 0 dX12_goesAlong_23 rfl rfl ?_
  refine s_geto (pc := 24) F_12 31 rfl o19 dX12_goesAlong_24 kf_X12_64 ?_
  refine s_rvB (fun r20 => ?_)
  refine s_iconst (pc := 27) 1 dX12_goesAlong_27 kc_1 ?_
  refine s_aload_n (pc := 28) 0 dX12_goesAlong_28 rfl rfl ?_
  refine s_geto (pc := 29) F_12 3 rfl o19 dX12_goesAlong_29 kf_X12_20 ?_
  refine s_rvB (fun r21 => ?_)
  refine s_bipush (pc := 32) 56 dX12_goesAlong_32 kb_56 ?_
  refine s_grd (fun o22 => ?_)
  refine s_grd (fun i23 => ?_)
  refine s_iald (pc := 34) o22 i23 dX12_goesAlong_34 ?_
  refine s_grd (fun o24 => ?_)
  refine s_grd (fun i25 => ?_)
  refine s_iast (pc := 35) o24 i25 dX12_goesAlong_35 (fun M26 hM27 => ?_)
  have h28 := le_wI hM27
  have o29 := h28.ok o19
  refine s_aload_n (pc := 36) 0 dX12_goesAlong_36 rfl rfl ?_
  refine s_geto (pc := 37) F_12 31 rfl o29 dX12_goesAlong_37 kf_X12_64 ?_
  refine s_rvB (fun r30 => ?_)
  refine s_iconst (pc := 40) 2 dX12_goesAlong_40 kc_2 ?_
  refine s_aload_n (pc := 41) 0 dX12_goesAlong_41 rfl rfl ?_
  refine s_geti (pc := 42) F_12 47 rfl o29 dX12_goesAlong_42 kf_X12_419 ?_
  refine s_grd (fun o31 => ?_)
  refine s_grd (fun i32 => ?_)
  refine s_iast (pc := 45) o31 i32 dX12_goesAlong_45 (fun M33 hM34 => ?_)
  have h35 := le_wI hM34
  have o36 := h35.ok o29
  refine s_aload_n (pc := 46) 0 dX12_goesAlong_46 rfl rfl ?_
  refine s_geto (pc := 47) F_12 31 rfl o36 dX12_goesAlong_47 kf_X12_64 ?_
  refine s_rvB (fun r37 => ?_)
  refine s_iconst (pc := 50) 3 dX12_goesAlong_50 kc_3 ?_
  refine s_aload_n (pc := 51) 0 dX12_goesAlong_51 rfl rfl ?_
  refine s_geti (pc := 52) F_12 48 rfl o36 dX12_goesAlong_52 kf_X12_422 ?_
  refine s_grd (fun o38 => ?_)
  refine s_grd (fun i39 => ?_)
  refine s_iast (pc := 55) o38 i39 dX12_goesAlong_55 (fun M40 hM41 => ?_)
  have h42 := le_wI hM41
  have o43 := h42.ok o36
  refine s_aload_n (pc := 56) 0 dX12_goesAlong_56 rfl rfl ?_
  refine s_aload_n (pc := 57) 0 dX12_goesAlong_57 rfl rfl ?_
  refine s_geti (pc := 58) F_12 49 rfl o43 dX12_goesAlong_58 kf_X12_425 ?_
  refine s_puti (pc := 61) F_12 26 rfl o43 rfl rfl rfl dX12_goesAlong_61 kf_X12_309 (fun M44 hM45 => ?_)
  have h46 := le_wI hM45
  have o47 := h46.ok o43
  refine s_aload_n (pc := 64) 0 dX12_goesAlong_64 rfl rfl ?_
  refine s_aload_n (pc := 65) 0 dX12_goesAlong_65 rfl rfl ?_
  refine s_aload_n (pc := 66) 0 dX12_goesAlong_66 rfl rfl ?_
  refine s_geti (pc := 67) F_12 26 rfl o47 dX12_goesAlong_67 kf_X12_309 ?_
  refine s_bind (fun q48 hq49 => ?_)
  have hC50 := t_X12_codeAt (l := xl X) (G := xG X) hq49
  refine s_callV (pc := 70) (As := [.int (mI M44 a0 26)]) (st := [.ref (gh (xG X) + a0)]) (nlt rfl) (q := (RX12, TX12, 59)) rfl rfl o47 cl_X12_codeAt wi_X12_codeAt wl_X12_codeAt km_X12_312 rfl rfl (nle rfl) (nle rfl) (nle rfl) dX12_goesAlong_70 hC50 ?_
  show S0 X _ M44 73 [some (.ref (gh (xG X) + a0)), some (.int p1), some (.int p2), none] [.int q48, .ref (gh (xG X) + a0)] _
  refine s_puti (pc := 73) F_12 51 rfl o47 rfl rfl rfl dX12_goesAlong_73 kf_X12_434 (fun M51 hM52 => ?_)
  have h53 := le_wI hM52
  have o54 := h53.ok o47
  refine s_aload_n (pc := 76) 0 dX12_goesAlong_76 rfl rfl ?_
  refine s_dup (pc := 77) dX12_goesAlong_77 rfl ?_
  refine s_geti (pc := 78) F_12 26 rfl o54 dX12_goesAlong_78 kf_X12_309 ?_
  refine s_iconst (pc := 81) 1 dX12_goesAlong_81 kc_1 ?_
  refine s_iadd (pc := 82) dX12_goesAlong_82 ?_
  refine s_puti (pc := 83) F_12 26 rfl o54 rfl rfl rfl dX12_goesAlong_83 kf_X12_309 (fun M55 hM56 => ?_)
  have h57 := le_wI hM56
  have o58 := h57.ok o54
  refine s_aload_n (pc := 86) 0 dX12_goesAlong_86 rfl rfl ?_
  refine s_iconst (pc := 87) 1 dX12_goesAlong_87 kc_1 ?_
  refine s_puti (pc := 88) F_12 53 rfl o58 rfl rfl (by decide) dX12_goesAlong_88 kf_X12_431 (fun M59 hM60 => ?_)
  have h61 := le_wI hM60
  have o62 := h61.ok o58
  refine s_aload_n (pc := 91) 0 dX12_goesAlong_91 rfl rfl ?_
  refine s_geto (pc := 92) F_12 55 rfl o62 dX12_goesAlong_92 kf_X12_114 ?_
  refine s_rvB (fun r63 => ?_)
  refine s_iconst (pc := 95) 1 dX12_goesAlong_95 kc_1 ?_
  refine s_lconst (pc := 96) 0 dX12_goesAlong_96 kl_0 ?_
  refine s_grd (fun o64 => ?_)
  refine s_grd (fun i65 => ?_)
  refine s_last (pc := 97) o64 i65 dX12_goesAlong_97 (fun M66 hM67 => ?_)
  have h68 := le_wJ hM67
  have o69 := h68.ok o62
  refine s_aload_n (pc := 98) 0 dX12_goesAlong_98 rfl rfl ?_
  refine s_iconst (pc := 99) 0 dX12_goesAlong_99 kc_0 ?_
  refine s_iload_n (pc := 100) 2 dX12_goesAlong_100 rfl rfl ?_
  refine s_bind (fun q70 hq71 => ?_)
  have hC72 := t_X12_nextSum (l := xl X) (G := xG X) hq71
  refine s_callV (pc := 101) (As := [.int 0, .int p2]) (st := []) (nlt rfl) (q := (RX12, TX12, 59)) rfl rfl o69 cl_X12_nextSum wi_X12_nextSum wl_X12_nextSum km_X12_437 rfl rfl (nle rfl) (nle rfl) (nle rfl) dX12_goesAlong_101 hC72 ?_
  have h73 := hC72.1 X
  have o74 := h73.ok o69
  show S0 X _ q70 104 [some (.ref (gh (xG X) + a0)), some (.int p1), some (.int p2), none] [] _
  refine s_aload_n (pc := 104) 0 dX12_goesAlong_104 rfl rfl ?_
  refine s_geti (pc := 105) F_12 51 rfl o74 dX12_goesAlong_105 kf_X12_434 ?_
  refine s_bipush (pc := 108) 19 dX12_goesAlong_108 kb_19 ?_
  refine s_join q70 (fun s76 : Mem => s76) 207 (fun s76 : Mem => [some (.ref (gh (xG X) + a0)), none, some (.int p2), none]) (fun s76 : Mem => []) (fun s76 hs77 => ?_) (fun j75 hj78 => ?_)
  · show S0 X _ s76 207 [some (.ref (gh (xG X) + a0)), none, some (.int p2), none] [] _
    have o79 := hs77.ok o74
    refine s_aload_n (pc := 207) 0 dX12_goesAlong_207 rfl rfl ?_
    refine s_iconst (pc := 208) 1 dX12_goesAlong_208 kc_1 ?_
    refine s_puti (pc := 209) F_12 50 rfl o79 rfl rfl rfl dX12_goesAlong_209 kf_X12_444 (fun M80 hM81 => ?_)
    have h82 := le_wI hM81
    have o83 := h82.ok o79
    refine s_aload_n (pc := 212) 0 dX12_goesAlong_212 rfl rfl ?_
    refine s_bipush (pc := 213) 26 dX12_goesAlong_213 kb_26 ?_
    refine s_bind (fun q84 hq85 => ?_)
    have hC86 := t_X12_passes0 (l := xl X) (G := xG X) hq85
    refine s_callV (pc := 215) (As := [.int 26]) (st := []) (nlt rfl) (q := (RX12, TX12, 59)) rfl rfl o83 cl_X12_passes0 wi_X12_passes0 wl_X12_passes0 km_X12_333 rfl rfl (nle rfl) (nle rfl) (nle rfl) dX12_goesAlong_215 hC86 ?_
    have h87 := hC86.1 X
    have o88 := h87.ok o83
    show S0 X _ q84.1 218 [some (.ref (gh (xG X) + a0)), none, some (.int p2), none] [.int q84.2] _
    refine s_join q84.1 (fun s90 : Mem => s90) 248 (fun s90 : Mem => [some (.ref (gh (xG X) + a0)), none, some (.int p2), none]) (fun s90 : Mem => []) (fun s90 hs91 => ?_) (fun j89 hj92 => ?_)
    · show S0 X _ s90 248 [some (.ref (gh (xG X) + a0)), none, some (.int p2), none] [] _
      have o93 := hs91.ok o88
      refine s_aload_n (pc := 248) 0 dX12_goesAlong_248 rfl rfl ?_
      refine s_iconst (pc := 249) 0 dX12_goesAlong_249 kc_0 ?_
      refine s_puti (pc := 250) F_12 28 rfl o93 rfl rfl (by decide) dX12_goesAlong_250 kf_X12_319 (fun M94 hM95 => ?_)
      have h96 := le_wI hM95
      have o97 := h96.ok o93
      refine s_aload_n (pc := 253) 0 dX12_goesAlong_253 rfl rfl ?_
      refine s_aload_n (pc := 254) 0 dX12_goesAlong_254 rfl rfl ?_
      refine s_iconst (pc := 255) 3 dX12_goesAlong_255 kc_3 ?_
      refine s_bind (fun q98 hq99 => ?_)
      have hC100 := t_X12_passes0 (l := xl X) (G := xG X) hq99
      refine s_callV (pc := 256) (As := [.int 3]) (st := [.ref (gh (xG X) + a0)]) (nlt rfl) (q := (RX12, TX12, 59)) rfl rfl o97 cl_X12_passes0 wi_X12_passes0 wl_X12_passes0 km_X12_333 rfl rfl (nle rfl) (nle rfl) (nle rfl) dX12_goesAlong_256 hC100 ?_
      have h101 := hC100.1 X
      have o102 := h101.ok o97
      show S0 X _ q98.1 259 [some (.ref (gh (xG X) + a0)), none, some (.int p2), none] [.int q98.2, .ref (gh (xG X) + a0)] _
      refine s_join q98.1 (fun s104 : Mem × Int32 => s104.1) 275 (fun s104 : Mem × Int32 => [some (.ref (gh (xG X) + a0)), none, none, none]) (fun s104 : Mem × Int32 => [.int s104.2, .ref (gh (xG X) + a0)]) (fun s104 hs105 => ?_) (fun j103 hj106 => ?_)
      · show S0 X _ s104.1 275 [some (.ref (gh (xG X) + a0)), none, none, none] [.int s104.2, .ref (gh (xG X) + a0)] _
        have o107 := hs105.ok o102
        refine s_grd (fun g111 => ?_)
        refine s_puti (pc := 275) F_12 54 rfl o107 rfl g111.1 g111.2 dX12_goesAlong_275 kf_X12_447 (fun M108 hM109 => ?_)
        have h110 := le_wI hM109
        have o112 := h110.ok o107
        refine s_aload_n (pc := 278) 0 dX12_goesAlong_278 rfl rfl ?_
        refine s_aload_n (pc := 279) 0 dX12_goesAlong_279 rfl rfl ?_
        refine s_geti (pc := 280) F_12 54 rfl o112 dX12_goesAlong_280 kf_X12_447 ?_
        refine s_join M108 (fun s114 : Int32 => M108) 298 (fun s114 : Int32 => [some (.ref (gh (xG X) + a0)), none, none, none]) (fun s114 : Int32 => [.int s114, .ref (gh (xG X) + a0)]) (fun s114 hs115 => ?_) (fun j113 hj116 => ?_)
        · show S0 X _ M108 298 [some (.ref (gh (xG X) + a0)), none, none, none] [.int s114, .ref (gh (xG X) + a0)] _
          refine s_grd (fun g120 => ?_)
          refine s_puti (pc := 298) F_12 54 rfl o112 rfl g120.1 g120.2 dX12_goesAlong_298 kf_X12_447 (fun M117 hM118 => ?_)
          have h119 := le_wI hM118
          have o121 := h119.ok o112
          refine s_aload_n (pc := 301) 0 dX12_goesAlong_301 rfl rfl ?_
          refine s_dup (pc := 302) dX12_goesAlong_302 rfl ?_
          refine s_geti (pc := 303) F_12 26 rfl o121 dX12_goesAlong_303 kf_X12_309 ?_
          refine s_iconst (pc := 306) 1 dX12_goesAlong_306 kc_1 ?_
          refine s_iadd (pc := 307) dX12_goesAlong_307 ?_
          refine s_puti (pc := 308) F_12 26 rfl o121 rfl rfl rfl dX12_goesAlong_308 kf_X12_309 (fun M122 hM123 => ?_)
          have h124 := le_wI hM123
          have o125 := h124.ok o121
          exact s_vret rfl dX12_goesAlong_311
        · refine s_join M108 (fun s127 : Unit => M108) 297 (fun s127 : Unit => [some (.ref (gh (xG X) + a0)), none, none, none]) (fun s127 : Unit => [.ref (gh (xG X) + a0)]) (fun s127 hs128 => ?_) (fun j126 hj129 => ?_)
          · show S0 X _ M108 297 [some (.ref (gh (xG X) + a0)), none, none, none] [.ref (gh (xG X) + a0)] _
            refine s_iconst (pc := 297) 0 dX12_goesAlong_297 kc_0 ?_
            exact s_drop (hj116 0 Le.rf) (And.intro rfl trivial)
          · refine s_ifeq (pc := 283) 297 dX12_goesAlong_283 rfl ?_ ?_
            · exact s_drop (hj129 () Le.rf) (And.intro rfl trivial)
            · refine s_aload_n (pc := 286) 0 dX12_goesAlong_286 rfl rfl ?_
              refine s_geti (pc := 287) F_12 28 rfl o112 dX12_goesAlong_287 kf_X12_319 ?_
              refine s_ifne (pc := 290) 297 dX12_goesAlong_290 rfl ?_ ?_
              · exact s_drop (hj129 () Le.rf) (And.intro rfl trivial)
              · refine s_iconst (pc := 293) 1 dX12_goesAlong_293 kc_1 ?_
                refine s_goto (pc := 294) 298 dX12_goesAlong_294 rfl ?_
                exact s_drop (hj116 1 Le.rf) (And.intro rfl trivial)
      · refine s_join q98.1 (fun s131 : Mem => s131) 270 (fun s131 : Mem => [some (.ref (gh (xG X) + a0)), none, none, none]) (fun s131 : Mem => [.ref (gh (xG X) + a0)]) (fun s131 hs132 => ?_) (fun j130 hj133 => ?_)
        · show S0 X _ s131 270 [some (.ref (gh (xG X) + a0)), none, none, none] [.ref (gh (xG X) + a0)] _
          have o134 := hs132.ok o102
          refine s_iconst (pc := 270) 1 dX12_goesAlong_270 kc_1 ?_
          refine s_goto (pc := 271) 275 dX12_goesAlong_271 rfl ?_
          exact s_drop (hj106 (s131, 1) hs132) (And.intro rfl trivial)
        · refine s_ifeq (pc := 259) 270 dX12_goesAlong_259 rfl ?_ ?_
          · exact s_drop (hj133 q98.1 Le.rf) (And.intro rfl trivial)
          · refine s_aload_n (pc := 262) 0 dX12_goesAlong_262 rfl rfl ?_
            refine s_iload_n (pc := 263) 2 dX12_goesAlong_263 rfl rfl ?_
            refine s_bind (fun q135 hq136 => ?_)
            have hC137 := tf_X12_testOf (l := xl X) (G := xG X) hq136
            refine s_callV (pc := 264) (As := [.int p2]) (st := [.ref (gh (xG X) + a0)]) (nlt rfl) (q := (RX12, TX12, 59)) rfl rfl o102 cl_X12_testOf wi_X12_testOf wl_X12_testOf km_X12_354 rfl rfl (nle rfl) (nle rfl) (nle rfl) dX12_goesAlong_264 hC137 ?_
            have h138 := hC137.1 X
            have o139 := h138.ok o102
            show S0 X _ q135.1 267 [some (.ref (gh (xG X) + a0)), none, some (.int p2), none] [.int q135.2, .ref (gh (xG X) + a0)] _
            refine s_ifeq (pc := 267) 274 dX12_goesAlong_267 rfl ?_ ?_
            · refine s_iconst (pc := 274) 0 dX12_goesAlong_274 kc_0 ?_
              exact s_drop (hj106 (q135.1, 0) h138) (And.intro rfl trivial)
            · exact s_drop (hj133 q135.1 h138) (And.intro rfl trivial)
    · refine s_ifeq (pc := 218) 248 dX12_goesAlong_218 rfl ?_ ?_
      · exact s_drop (hj92 q84.1 Le.rf) (And.intro rfl (And.intro rfl trivial))
      · refine s_aload_n (pc := 221) 0 dX12_goesAlong_221 rfl rfl ?_
        refine s_aload_n (pc := 222) 0 dX12_goesAlong_222 rfl rfl ?_
        refine s_geto (pc := 223) F_12 3 rfl o88 dX12_goesAlong_223 kf_X12_20 ?_
        refine s_rvB (fun r140 => ?_)
        refine s_sipush (pc := 226) 2866 dX12_goesAlong_226 ks_2866 ?_
        refine s_aload_n (pc := 229) 0 dX12_goesAlong_229 rfl rfl ?_
        refine s_geti (pc := 230) F_12 26 rfl o88 dX12_goesAlong_230 kf_X12_309 ?_
        refine s_iadd (pc := 233) dX12_goesAlong_233 ?_
        refine s_grd (fun o141 => ?_)
        refine s_grd (fun i142 => ?_)
        refine s_iald (pc := 234) o141 i142 dX12_goesAlong_234 ?_
        refine s_puti (pc := 235) F_12 50 rfl o88 rfl rfl rfl dX12_goesAlong_235 kf_X12_444 (fun M143 hM144 => ?_)
        have h145 := le_wI hM144
        have o146 := h145.ok o88
        refine s_aload_n (pc := 238) 0 dX12_goesAlong_238 rfl rfl ?_
        refine s_dup (pc := 239) dX12_goesAlong_239 rfl ?_
        refine s_geti (pc := 240) F_12 26 rfl o146 dX12_goesAlong_240 kf_X12_309 ?_
        refine s_iconst (pc := 243) 1 dX12_goesAlong_243 kc_1 ?_
        refine s_iadd (pc := 244) dX12_goesAlong_244 ?_
        refine s_puti (pc := 245) F_12 26 rfl o146 rfl rfl rfl dX12_goesAlong_245 kf_X12_309 (fun M147 hM148 => ?_)
        have h149 := le_wI hM148
        have o150 := h149.ok o146
        exact s_drop (hj92 M147 (h145.tr h149)) (And.intro rfl (And.intro rfl trivial))
  · refine s_icne (pc := 110) 207 dX12_goesAlong_110 rfl ?_ ?_
    · exact s_drop (hj78 q70 Le.rf) (And.intro rfl (And.intro rfl trivial))
    · refine s_aload_n (pc := 113) 0 dX12_goesAlong_113 rfl rfl ?_
      refine s_aload_n (pc := 114) 0 dX12_goesAlong_114 rfl rfl ?_
      refine s_geti (pc := 115) F_12 26 rfl o74 dX12_goesAlong_115 kf_X12_309 ?_
      refine s_bind (fun q151 hq152 => ?_)
      have hC153 := t_X12_codeAt (l := xl X) (G := xG X) hq152
      refine s_callV (pc := 118) (As := [.int (mI q70 a0 26)]) (st := []) (nlt rfl) (q := (RX12, TX12, 59)) rfl rfl o74 cl_X12_codeAt wi_X12_codeAt wl_X12_codeAt km_X12_312 rfl rfl (nle rfl) (nle rfl) (nle rfl) dX12_goesAlong_118 hC153 ?_
      show S0 X _ q70 121 [some (.ref (gh (xG X) + a0)), some (.int p1), some (.int p2), none] [.int q151] _
      refine s_istore_n (pc := 121) 3 dX12_goesAlong_121 rfl (nlt rfl) rfl (L' := [some (.ref (gh (xG X) + a0)), some (.int p1), some (.int p2), some (.int q151)]) rfl ?_
      refine s_aload_n (pc := 122) 0 dX12_goesAlong_122 rfl rfl ?_
      refine s_dup (pc := 123) dX12_goesAlong_123 rfl ?_
      refine s_geti (pc := 124) F_12 26 rfl o74 dX12_goesAlong_124 kf_X12_309 ?_
      refine s_iconst (pc := 127) 1 dX12_goesAlong_127 kc_1 ?_
      refine s_iadd (pc := 128) dX12_goesAlong_128 ?_
      refine s_puti (pc := 129) F_12 26 rfl o74 rfl rfl rfl dX12_goesAlong_129 kf_X12_309 (fun M154 hM155 => ?_)
      have h156 := le_wI hM155
      have o157 := h156.ok o74
      refine s_aload_n (pc := 132) 0 dX12_goesAlong_132 rfl rfl ?_
      refine s_iload_n (pc := 133) 3 dX12_goesAlong_133 rfl rfl ?_
      refine s_bipush (pc := 134) 20 dX12_goesAlong_134 kb_20 ?_
      refine s_join M154 (fun s159 : Int32 => M154) 174 (fun s159 : Int32 => [some (.ref (gh (xG X) + a0)), none, some (.int p2), none]) (fun s159 : Int32 => [.int s159, .ref (gh (xG X) + a0)]) (fun s159 hs160 => ?_) (fun j158 hj161 => ?_)
      · show S0 X _ M154 174 [some (.ref (gh (xG X) + a0)), none, some (.int p2), none] [.int s159, .ref (gh (xG X) + a0)] _
        refine s_puti (pc := 174) F_12 52 rfl o157 rfl rfl rfl dX12_goesAlong_174 kf_X12_441 (fun M162 hM163 => ?_)
        have h164 := le_wI hM163
        have o165 := h164.ok o157
        refine s_aload_n (pc := 177) 0 dX12_goesAlong_177 rfl rfl ?_
        refine s_geti (pc := 178) F_12 52 rfl o165 dX12_goesAlong_178 kf_X12_441 ?_
        refine s_iconst (pc := 181) 1 dX12_goesAlong_181 kc_1 ?_
        refine s_join M162 (fun s167 : Mem => s167) 191 (fun s167 : Mem => [some (.ref (gh (xG X) + a0)), none, some (.int p2), none]) (fun s167 : Mem => []) (fun s167 hs168 => ?_) (fun j166 hj169 => ?_)
        · show S0 X _ s167 191 [some (.ref (gh (xG X) + a0)), none, some (.int p2), none] [] _
          have o170 := hs168.ok o165
          refine s_aload_n (pc := 191) 0 dX12_goesAlong_191 rfl rfl ?_
          refine s_dup (pc := 192) dX12_goesAlong_192 rfl ?_
          refine s_geti (pc := 193) F_12 26 rfl o170 dX12_goesAlong_193 kf_X12_309 ?_
          refine s_iconst (pc := 196) 1 dX12_goesAlong_196 kc_1 ?_
          refine s_iadd (pc := 197) dX12_goesAlong_197 ?_
          refine s_puti (pc := 198) F_12 26 rfl o170 rfl rfl rfl dX12_goesAlong_198 kf_X12_309 (fun M171 hM172 => ?_)
          have h173 := le_wI hM172
          have o174 := h173.ok o170
          refine s_aload_n (pc := 201) 0 dX12_goesAlong_201 rfl rfl ?_
          refine s_iconst (pc := 202) 2 dX12_goesAlong_202 kc_2 ?_
          refine s_iload_n (pc := 203) 2 dX12_goesAlong_203 rfl rfl ?_
          refine s_bind (fun q175 hq176 => ?_)
          have hC177 := t_X12_nextSum (l := xl X) (G := xG X) hq176
          refine s_callV (pc := 204) (As := [.int 2, .int p2]) (st := []) (nlt rfl) (q := (RX12, TX12, 59)) rfl rfl o174 cl_X12_nextSum wi_X12_nextSum wl_X12_nextSum km_X12_437 rfl rfl (nle rfl) (nle rfl) (nle rfl) dX12_goesAlong_204 hC177 ?_
          have h178 := hC177.1 X
          have o179 := h178.ok o174
          show S0 X _ q175 207 [some (.ref (gh (xG X) + a0)), none, some (.int p2), none] [] _
          exact s_drop (hj78 q175 (h156.tr (h164.tr (hs168.tr (h173.tr h178))))) (And.intro rfl (And.intro rfl trivial))
        · refine s_icne (pc := 182) 191 dX12_goesAlong_182 rfl ?_ ?_
          · exact s_drop (hj169 M162 Le.rf) (And.intro rfl (And.intro rfl trivial))
          · refine s_aload_n (pc := 185) 0 dX12_goesAlong_185 rfl rfl ?_
            refine s_iconst (pc := 186) 1 dX12_goesAlong_186 kc_1 ?_
            refine s_iload_n (pc := 187) 2 dX12_goesAlong_187 rfl rfl ?_
            refine s_bind (fun q180 hq181 => ?_)
            have hC182 := t_X12_nextSum (l := xl X) (G := xG X) hq181
            refine s_callV (pc := 188) (As := [.int 1, .int p2]) (st := []) (nlt rfl) (q := (RX12, TX12, 59)) rfl rfl o165 cl_X12_nextSum wi_X12_nextSum wl_X12_nextSum km_X12_437 rfl rfl (nle rfl) (nle rfl) (nle rfl) dX12_goesAlong_188 hC182 ?_
            have h183 := hC182.1 X
            have o184 := h183.ok o165
            show S0 X _ q180 191 [some (.ref (gh (xG X) + a0)), none, some (.int p2), none] [] _
            exact s_drop (hj169 q180 h183) (And.intro rfl (And.intro rfl trivial))
      · refine s_icne (pc := 136) 143 dX12_goesAlong_136 rfl ?_ ?_
        · refine s_iload_n (pc := 143) 3 dX12_goesAlong_143 rfl rfl ?_
          refine s_bipush (pc := 144) 24 dX12_goesAlong_144 kb_24 ?_
          refine s_icne (pc := 146) 153 dX12_goesAlong_146 rfl ?_ ?_
          · refine s_iload_n (pc := 153) 3 dX12_goesAlong_153 rfl rfl ?_
            refine s_bipush (pc := 154) 21 dX12_goesAlong_154 kb_21 ?_
            refine s_icne (pc := 156) 163 dX12_goesAlong_156 rfl ?_ ?_
            · refine s_iload_n (pc := 163) 3 dX12_goesAlong_163 rfl rfl ?_
              refine s_bipush (pc := 164) 22 dX12_goesAlong_164 kb_22 ?_
              refine s_icne (pc := 166) 173 dX12_goesAlong_166 rfl ?_ ?_
              · refine s_iconst (pc := 173) 4 dX12_goesAlong_173 kc_4 ?_
                exact s_drop (hj161 4 Le.rf) (And.intro rfl (And.intro rfl trivial))
              · refine s_iconst (pc := 169) 3 dX12_goesAlong_169 kc_3 ?_
                refine s_goto (pc := 170) 174 dX12_goesAlong_170 rfl ?_
                exact s_drop (hj161 3 Le.rf) (And.intro rfl (And.intro rfl trivial))
            · refine s_iconst (pc := 159) 2 dX12_goesAlong_159 kc_2 ?_
              refine s_goto (pc := 160) 174 dX12_goesAlong_160 rfl ?_
              exact s_drop (hj161 2 Le.rf) (And.intro rfl (And.intro rfl trivial))
          · refine s_iconst (pc := 149) 1 dX12_goesAlong_149 kc_1 ?_
            refine s_goto (pc := 150) 174 dX12_goesAlong_150 rfl ?_
            exact s_drop (hj161 1 Le.rf) (And.intro rfl (And.intro rfl trivial))
        · refine s_iconst (pc := 139) 0 dX12_goesAlong_139 kc_0 ?_
          refine s_goto (pc := 140) 174 dX12_goesAlong_140 rfl ?_
          exact s_drop (hj161 0 Le.rf) (And.intro rfl (And.intro rfl trivial))
