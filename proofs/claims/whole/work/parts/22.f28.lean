set_option maxRecDepth 100000 in
set_option maxHeartbeats 8000000 in
noncomputable def b_X12_positiveOf (g_X12_testOf : Mem → Nat → Int32 → Option (Mem × Int32)) (M : Mem) (a0 : Nat) (p1 : Int32) : Option (Mem × Int32) :=
  Option.bind (f_X12_sign 40) (fun q1 => grd (okO M 12 a0) (Option.bind (f_X12_passes0 M a0 q1) (fun q5 => if q5.2 = 0 then (Option.bind (f_X12_sumOf 100 q5.1 a0 p1) (fun q10 => Option.bind (f_X12_codeAt q10.1 a0 (mI q10.1 a0 26)) (fun q15 => bv (wI q10.1 a0 26 ((mI q10.1 a0 26) + 1)) (fun M18 => Option.bind (f_X12_sumOf 100 M18 a0 p1) (fun q22 => if p1 = 0 then (some (q22.1, 0)) else (if (mI q22.1 a0 28) = 0 then (Option.bind (f_X12_sign 60) (fun q27 => if q15 = q27 then (if 0 ≤ (lg_cmp q10.2 q22.2) then (some (q22.1, 0)) else (some (q22.1, 1))) else (Option.bind (f_X12_sign 62) (fun q30 => if q15 = q30 then (if (lg_cmp q10.2 q22.2) ≤ 0 then (some (q22.1, 0)) else (some (q22.1, 1))) else (if (lg_cmp q10.2 q22.2) = 0 then (some (q22.1, 1)) else (some (q22.1, 0))))))) else (some (q22.1, 0)))))))) else (Option.bind (g_X12_testOf q5.1 a0 p1) (fun q33 => bv (wI q33.1 a0 26 ((mI q33.1 a0 26) + 1)) (fun M38 => grd (bl q33.2) (some (M38, q33.2))))))))
set_option maxRecDepth 100000 in
set_option maxHeartbeats 8000000 in
theorem t_X12_positiveOf {d : Nat} {g_X12_testOf : Mem → Nat → Int32 → Option (Mem × Int32)} {l : Launch} {G : Gh} {M : Mem} {a0 : Nat} {p1 : Int32} {q : Mem × Int32} (hg_X12_testOf : ∀ X : Ctx, xG X = G → xl X = l → ∀ (M : Mem) (a0 : Nat) (p1 : Int32) (q : Mem × Int32), g_X12_testOf M a0 p1 = some q → Ctr (xl X) (xG X) yX12_testOf (Y_X12_testOf d) M [.ref (gh (xG X) + a0), .int p1] q.1 (some (.int q.2))) (h : b_X12_positiveOf g_X12_testOf M a0 p1 = some q) : Ctr l G yX12_positiveOf (Y_X12_positiveOf (d + 1)) M [.ref (gh G + a0), .int p1] q.1 (some (.int q.2)) := by
  refine Ctr.of (Y := (Y_X12_positiveOf (d + 1))) (L := [some (.ref (gh G + a0)), some (.int p1), none, none, none, none, none]) (t := Option.bind (b_X12_positiveOf g_X12_testOf M a0 p1) (fun q => some (q.1, some (.int q.2)))) (by decide) rfl rfl (nle rfl) (Lof_in 5 _ rfl) (fun X hG hl => ?_) (by rw [h]; rfl)
  subst hG
  subst hl
  unfold b_X12_positiveOf
  refine s_aload_n (pc := 0) 0 dX12_positiveOf_0 rfl rfl ?_
  refine s_bipush (pc := 1) 40 dX12_positiveOf_1 kb_40 ?_
  refine s_bind (fun q1 hq2 => ?_)
  have hC3 := t_X12_sign (l := xl X) (G := xG X) (M := M) hq2
  refine s_callS (pc := 3) (As := [.int 40]) (st := [.ref (gh (xG X) + a0)]) cl_X12_sign wt_X12_sign km_X12_278 rfl rfl (Nat.le_trans (nle rfl : _ ≤ 104) (Nat.le_add_right 104 _)) (nle rfl) (nle rfl) dX12_positiveOf_3 hC3 ?_
  show S0 X _ M 6 [some (.ref (gh (xG X) + a0)), some (.int p1), none, none, none, none, none] [.int q1, .ref (gh (xG X) + a0)] _
  refine s_grd (fun o4 => ?_)
  refine s_bind (fun q5 hq6 => ?_)
  have hC7 := t_X12_passes0 (l := xl X) (G := xG X) hq6
  refine s_callV (pc := 6) (As := [.int q1]) (st := []) (nlt rfl) (q := (RX12, TX12, 59)) rfl rfl o4 cl_X12_passes0 wi_X12_passes0 wl_X12_passes0 km_X12_333 rfl rfl (Nat.le_trans (nle rfl : _ ≤ 104) (Nat.le_add_right 104 _)) (nle rfl) (nle rfl) dX12_positiveOf_6 hC7 ?_
  have h8 := hC7.1 X
  have o9 := h8.ok o4
  show S0 X _ q5.1 9 [some (.ref (gh (xG X) + a0)), some (.int p1), none, none, none, none, none] [.int q5.2] _
  refine s_ifeq (pc := 9) 30 dX12_positiveOf_9 rfl ?_ ?_
  · refine s_aload_n (pc := 30) 0 dX12_positiveOf_30 rfl rfl ?_
    refine s_iload_n (pc := 31) 1 dX12_positiveOf_31 rfl rfl ?_
    refine s_bind (fun q10 hq11 => ?_)
    have hC12 := tf_X12_sumOf (l := xl X) (G := xG X) hq11
    refine s_callV (pc := 32) (As := [.int p1]) (st := []) (nlt rfl) (q := (RX12, TX12, 59)) rfl rfl o9 cl_X12_sumOf wi_X12_sumOf wl_X12_sumOf km_X12_336 rfl rfl (Nat.le_trans (nle rfl : _ ≤ 104) (Nat.le_add_right 104 _)) (nle rfl) (nle rfl) dX12_positiveOf_32 hC12 ?_
    have h13 := hC12.1 X
    have o14 := h13.ok o9
    show S0 X _ q10.1 35 [some (.ref (gh (xG X) + a0)), some (.int p1), none, none, none, none, none] [.long q10.2] _
    refine s_lstore_n (pc := 35) 2 dX12_positiveOf_35 rfl (nlt rfl) rfl (L' := [some (.ref (gh (xG X) + a0)), some (.int p1), some (.long q10.2), none, none, none, none]) rfl ?_
    refine s_aload_n (pc := 36) 0 dX12_positiveOf_36 rfl rfl ?_
    refine s_aload_n (pc := 37) 0 dX12_positiveOf_37 rfl rfl ?_
    refine s_geti (pc := 38) F_12 26 rfl o14 dX12_positiveOf_38 kf_X12_309 ?_
    refine s_bind (fun q15 hq16 => ?_)
    have hC17 := t_X12_codeAt (l := xl X) (G := xG X) hq16
    refine s_callV (pc := 41) (As := [.int (mI q10.1 a0 26)]) (st := []) (nlt rfl) (q := (RX12, TX12, 59)) rfl rfl o14 cl_X12_codeAt wi_X12_codeAt wl_X12_codeAt km_X12_312 rfl rfl (Nat.le_trans (nle rfl : _ ≤ 104) (Nat.le_add_right 104 _)) (nle rfl) (nle rfl) dX12_positiveOf_41 hC17 ?_
    show S0 X _ q10.1 44 [some (.ref (gh (xG X) + a0)), some (.int p1), some (.long q10.2), none, none, none, none] [.int q15] _
    refine s_istore (pc := 44) dX12_positiveOf_44 (nlt rfl) rfl (L' := [some (.ref (gh (xG X) + a0)), some (.int p1), some (.long q10.2), none, some (.int q15), none, none]) rfl ?_
    refine s_aload_n (pc := 46) 0 dX12_positiveOf_46 rfl rfl ?_
    refine s_dup (pc := 47) dX12_positiveOf_47 rfl ?_
    refine s_geti (pc := 48) F_12 26 rfl o14 dX12_positiveOf_48 kf_X12_309 ?_
    refine s_iconst (pc := 51) 1 dX12_positiveOf_51 kc_1 ?_
    refine s_iadd (pc := 52) dX12_positiveOf_52 ?_
    refine s_puti (pc := 53) F_12 26 rfl o14 rfl rfl rfl dX12_positiveOf_53 kf_X12_309 (fun M18 hM19 => ?_)
    have h20 := le_wI hM19
    have o21 := h20.ok o14
    refine s_aload_n (pc := 56) 0 dX12_positiveOf_56 rfl rfl ?_
    refine s_iload_n (pc := 57) 1 dX12_positiveOf_57 rfl rfl ?_
    refine s_bind (fun q22 hq23 => ?_)
    have hC24 := tf_X12_sumOf (l := xl X) (G := xG X) hq23
    refine s_callV (pc := 58) (As := [.int p1]) (st := []) (nlt rfl) (q := (RX12, TX12, 59)) rfl rfl o21 cl_X12_sumOf wi_X12_sumOf wl_X12_sumOf km_X12_336 rfl rfl (Nat.le_trans (nle rfl : _ ≤ 104) (Nat.le_add_right 104 _)) (nle rfl) (nle rfl) dX12_positiveOf_58 hC24 ?_
    have h25 := hC24.1 X
    have o26 := h25.ok o21
    show S0 X _ q22.1 61 [some (.ref (gh (xG X) + a0)), some (.int p1), some (.long q10.2), none, some (.int q15), none, none] [.long q22.2] _
    refine s_lstore (pc := 61) dX12_positiveOf_61 (nlt rfl) rfl (L' := [some (.ref (gh (xG X) + a0)), some (.int p1), some (.long q10.2), none, some (.int q15), some (.long q22.2), none]) rfl ?_
    refine s_iload_n (pc := 63) 1 dX12_positiveOf_63 rfl rfl ?_
    refine s_ifeq (pc := 64) 125 dX12_positiveOf_64 rfl ?_ ?_
    · refine s_iconst (pc := 125) 0 dX12_positiveOf_125 kc_0 ?_
      exact s_zret rfl rfl dX12_positiveOf_126
    · refine s_aload_n (pc := 67) 0 dX12_positiveOf_67 rfl rfl ?_
      refine s_geti (pc := 68) F_12 28 rfl o26 dX12_positiveOf_68 kf_X12_319 ?_
      refine s_ifne (pc := 71) 125 dX12_positiveOf_71 rfl ?_ ?_
      · refine s_iconst (pc := 125) 0 dX12_positiveOf_125 kc_0 ?_
        exact s_zret rfl rfl dX12_positiveOf_126
      · refine s_iload (pc := 74) dX12_positiveOf_74 rfl ?_
        refine s_bipush (pc := 76) 60 dX12_positiveOf_76 kb_60 ?_
        refine s_bind (fun q27 hq28 => ?_)
        have hC29 := t_X12_sign (l := xl X) (G := xG X) (M := q22.1) hq28
        refine s_callS (pc := 78) (As := [.int 60]) (st := [.int q15]) cl_X12_sign wt_X12_sign km_X12_278 rfl rfl (Nat.le_trans (nle rfl : _ ≤ 104) (Nat.le_add_right 104 _)) (nle rfl) (nle rfl) dX12_positiveOf_78 hC29 ?_
        show S0 X _ q22.1 81 [some (.ref (gh (xG X) + a0)), some (.int p1), some (.long q10.2), none, some (.int q15), some (.long q22.2), none] [.int q27, .int q15] _
        refine s_icne (pc := 81) 94 dX12_positiveOf_81 rfl ?_ ?_
        · refine s_iload (pc := 94) dX12_positiveOf_94 rfl ?_
          refine s_bipush (pc := 96) 62 dX12_positiveOf_96 kb_62 ?_
          refine s_bind (fun q30 hq31 => ?_)
          have hC32 := t_X12_sign (l := xl X) (G := xG X) (M := q22.1) hq31
          refine s_callS (pc := 98) (As := [.int 62]) (st := [.int q15]) cl_X12_sign wt_X12_sign km_X12_278 rfl rfl (Nat.le_trans (nle rfl : _ ≤ 104) (Nat.le_add_right 104 _)) (nle rfl) (nle rfl) dX12_positiveOf_98 hC32 ?_
          show S0 X _ q22.1 101 [some (.ref (gh (xG X) + a0)), some (.int p1), some (.long q10.2), none, some (.int q15), some (.long q22.2), none] [.int q30, .int q15] _
          refine s_icne (pc := 101) 114 dX12_positiveOf_101 rfl ?_ ?_
          · refine s_lload_n (pc := 114) 2 dX12_positiveOf_114 rfl rfl ?_
            refine s_lload (pc := 115) dX12_positiveOf_115 rfl ?_
            refine s_lcmp (pc := 117) dX12_positiveOf_117 ?_
            refine s_ifne (pc := 118) 125 dX12_positiveOf_118 rfl ?_ ?_
            · refine s_iconst (pc := 125) 0 dX12_positiveOf_125 kc_0 ?_
              exact s_zret rfl rfl dX12_positiveOf_126
            · refine s_iconst (pc := 121) 1 dX12_positiveOf_121 kc_1 ?_
              refine s_goto (pc := 122) 126 dX12_positiveOf_122 rfl ?_
              exact s_zret rfl rfl dX12_positiveOf_126
          · refine s_lload_n (pc := 104) 2 dX12_positiveOf_104 rfl rfl ?_
            refine s_lload (pc := 105) dX12_positiveOf_105 rfl ?_
            refine s_lcmp (pc := 107) dX12_positiveOf_107 ?_
            refine s_ifle (pc := 108) 125 dX12_positiveOf_108 rfl ?_ ?_
            · refine s_iconst (pc := 125) 0 dX12_positiveOf_125 kc_0 ?_
              exact s_zret rfl rfl dX12_positiveOf_126
            · refine s_goto (pc := 111) 121 dX12_positiveOf_111 rfl ?_
              refine s_iconst (pc := 121) 1 dX12_positiveOf_121 kc_1 ?_
              refine s_goto (pc := 122) 126 dX12_positiveOf_122 rfl ?_
              exact s_zret rfl rfl dX12_positiveOf_126
        · refine s_lload_n (pc := 84) 2 dX12_positiveOf_84 rfl rfl ?_
          refine s_lload (pc := 85) dX12_positiveOf_85 rfl ?_
          refine s_lcmp (pc := 87) dX12_positiveOf_87 ?_
          refine s_ifge (pc := 88) 125 dX12_positiveOf_88 rfl ?_ ?_
          · refine s_iconst (pc := 125) 0 dX12_positiveOf_125 kc_0 ?_
            exact s_zret rfl rfl dX12_positiveOf_126
          · refine s_goto (pc := 91) 121 dX12_positiveOf_91 rfl ?_
            refine s_iconst (pc := 121) 1 dX12_positiveOf_121 kc_1 ?_
            refine s_goto (pc := 122) 126 dX12_positiveOf_122 rfl ?_
            exact s_zret rfl rfl dX12_positiveOf_126
  · refine s_aload_n (pc := 12) 0 dX12_positiveOf_12 rfl rfl ?_
    refine s_iload_n (pc := 13) 1 dX12_positiveOf_13 rfl rfl ?_
    refine s_bind (fun q33 hq34 => ?_)
    have hC35 := hg_X12_testOf X rfl rfl q5.1 a0 p1 q33 hq34
    refine s_callV (pc := 14) (As := [.int p1]) (st := []) (nlt rfl) (q := (RX12, TX12, 59)) rfl rfl o9 cl_X12_testOf wi_X12_testOf wl_X12_testOf km_X12_354 rfl rfl (Nat.le_refl _) (nle rfl) (nle rfl) dX12_positiveOf_14 hC35 ?_
    have h36 := hC35.1 X
    have o37 := h36.ok o9
    show S0 X _ q33.1 17 [some (.ref (gh (xG X) + a0)), some (.int p1), none, none, none, none, none] [.int q33.2] _
    refine s_istore_n (pc := 17) 2 dX12_positiveOf_17 rfl (nlt rfl) rfl (L' := [some (.ref (gh (xG X) + a0)), some (.int p1), some (.int q33.2), none, none, none, none]) rfl ?_
    refine s_aload_n (pc := 18) 0 dX12_positiveOf_18 rfl rfl ?_
    refine s_dup (pc := 19) dX12_positiveOf_19 rfl ?_
    refine s_geti (pc := 20) F_12 26 rfl o37 dX12_positiveOf_20 kf_X12_309 ?_
    refine s_iconst (pc := 23) 1 dX12_positiveOf_23 kc_1 ?_
    refine s_iadd (pc := 24) dX12_positiveOf_24 ?_
    refine s_puti (pc := 25) F_12 26 rfl o37 rfl rfl rfl dX12_positiveOf_25 kf_X12_309 (fun M38 hM39 => ?_)
    have h40 := le_wI hM39
    have o41 := h40.ok o37
    refine s_iload_n (pc := 28) 2 dX12_positiveOf_28 rfl rfl ?_
    refine s_grd (fun g42 => ?_)
    exact s_zret rfl g42 dX12_positiveOf_29
set_option maxRecDepth 100000 in
set_option maxHeartbeats 8000000 in
noncomputable def b_X12_testOf (g_X12_bothOf : Mem → Nat → Int32 → Option (Mem × Int32)) (M : Mem) (a0 : Nat) (p1 : Int32) : Option (Mem × Int32) :=
  grd (okO M 12 a0) (Option.bind (g_X12_bothOf M a0 p1) (fun q2 => Option.bind (loopO (σ := Mem × Int32) (ρ := Mem × Int32) (fun s7 => Option.bind (f_X12_passes0 s7.1 a0 4) (fun q16 => if q16.2 = 0 then (some (.inr (q16.1, s7.2))) else (bv (fun (s22 : Int32) => Option.bind (g_X12_bothOf q16.1 a0 s22) (fun q25 => bv (fun (s31 : Int32) => some (.inl (q25.1, s31))) (fun j30 => bv (fun (s35 : Unit) => j30 1) (fun j34 => if s7.2 = 0 then (if q25.2 = 0 then (j30 0) else (j34 ())) else (j34 ()))))) (fun j21 => bv (fun (s39 : Unit) => j21 0) (fun j38 => if p1 = 0 then (j38 ()) else (if s7.2 = 0 then (j21 1) else (j38 ()))))))) (q2.1, q2.2)) (fun (x14 : Mem × Int32) => grd (bl x14.2) (some (x14.1, x14.2)))))
set_option maxRecDepth 100000 in
set_option maxHeartbeats 8000000 in
theorem t_X12_testOf {d : Nat} {g_X12_bothOf : Mem → Nat → Int32 → Option (Mem × Int32)} {l : Launch} {G : Gh} {M : Mem} {a0 : Nat} {p1 : Int32} {q : Mem × Int32} (hg_X12_bothOf : ∀ X : Ctx, xG X = G → xl X = l → ∀ (M : Mem) (a0 : Nat) (p1 : Int32) (q : Mem × Int32), g_X12_bothOf M a0 p1 = some q → Ctr (xl X) (xG X) yX12_bothOf (Y_X12_bothOf d) M [.ref (gh (xG X) + a0), .int p1] q.1 (some (.int q.2))) (h : b_X12_testOf g_X12_bothOf M a0 p1 = some q) : Ctr l G yX12_testOf (Y_X12_testOf (d + 1)) M [.ref (gh G + a0), .int p1] q.1 (some (.int q.2)) := by
  refine Ctr.of (Y := (Y_X12_testOf (d + 1))) (L := [some (.ref (gh G + a0)), some (.int p1), none, none]) (t := Option.bind (b_X12_testOf g_X12_bothOf M a0 p1) (fun q => some (q.1, some (.int q.2)))) (by decide) rfl rfl (nle rfl) (Lof_in 2 _ rfl) (fun X hG hl => ?_) (by rw [h]; rfl)
  subst hG
  subst hl
  unfold b_X12_testOf
  refine s_aload_n (pc := 0) 0 dX12_testOf_0 rfl rfl ?_
  refine s_iload_n (pc := 1) 1 dX12_testOf_1 rfl rfl ?_
  refine s_grd (fun o1 => ?_)
  refine s_bind (fun q2 hq3 => ?_)
  have hC4 := hg_X12_bothOf X rfl rfl M a0 p1 q2 hq3
  refine s_callV (pc := 2) (As := [.int p1]) (st := []) (nlt rfl) (q := (RX12, TX12, 59)) rfl rfl o1 cl_X12_bothOf wi_X12_bothOf wl_X12_bothOf km_X12_344 rfl rfl (Nat.le_refl _) (nle rfl) (nle rfl) dX12_testOf_2 hC4 ?_
  have h5 := hC4.1 X
  have o6 := h5.ok o1
  show S0 X _ q2.1 5 [some (.ref (gh (xG X) + a0)), some (.int p1), none, none] [.int q2.2] _
  refine s_istore_n (pc := 5) 2 dX12_testOf_5 rfl (nlt rfl) rfl (L' := [some (.ref (gh (xG X) + a0)), some (.int p1), some (.int q2.2), none]) rfl ?_
  refine s_drop (L' := [some (.ref (gh (xG X) + a0)), some (.int p1), some (.int q2.2), none]) ?_ (And.intro rfl (And.intro rfl (And.intro rfl trivial)))
  refine s_loop1 q2.1 (fun s7 : Mem × Int32 => s7.1) (fun s7 : Mem × Int32 => [some (.ref (gh (xG X) + a0)), some (.int p1), some (.int s7.2), none]) (fun x14 : Mem × Int32 => x14.1) 49 (fun x14 : Mem × Int32 => [none, none, some (.int x14.2), none]) (fun x14 hx15 => ?_) (fun T9 R11 hT10 hR12 s7 hs8 => ?_) (q2.1, q2.2) Le.rf
  · show S0 X _ x14.1 49 [none, none, some (.int x14.2), none] [] _
    refine s_iload_n (pc := 49) 2 dX12_testOf_49 rfl rfl ?_
    refine s_grd (fun g42 => ?_)
    exact s_zret rfl g42 dX12_testOf_50
  · show S0 X _ s7.1 6 [some (.ref (gh (xG X) + a0)), some (.int p1), some (.int s7.2), none] [] _
    have o13 := hs8.ok o6
    refine s_aload_n (pc := 6) 0 dX12_testOf_6 rfl rfl ?_
    refine s_iconst (pc := 7) 4 dX12_testOf_7 kc_4 ?_
    refine s_bind (fun q16 hq17 => ?_)
    have hC18 := t_X12_passes0 (l := xl X) (G := xG X) hq17
    refine s_callV (pc := 8) (As := [.int 4]) (st := []) (nlt rfl) (q := (RX12, TX12, 59)) rfl rfl o13 cl_X12_passes0 wi_X12_passes0 wl_X12_passes0 km_X12_333 rfl rfl (Nat.le_trans (nle rfl : _ ≤ 104) (Nat.le_add_right 104 _)) (nle rfl) (nle rfl) dX12_testOf_8 hC18 ?_
    have h19 := hC18.1 X
    have o20 := h19.ok o13
    show S0 X _ q16.1 11 [some (.ref (gh (xG X) + a0)), some (.int p1), some (.int s7.2), none] [.int q16.2] _
    refine s_ifeq (pc := 11) 49 dX12_testOf_11 rfl ?_ ?_
    · exact s_drop (hR12 (q16.1, s7.2) (hs8.tr h19)) (And.intro rfl trivial)
    · refine s_aload_n (pc := 14) 0 dX12_testOf_14 rfl rfl ?_
      refine s_iload_n (pc := 15) 1 dX12_testOf_15 rfl rfl ?_
      refine s_join q16.1 (fun s22 : Int32 => q16.1) 28 (fun s22 : Int32 => [some (.ref (gh (xG X) + a0)), some (.int p1), some (.int s7.2), none]) (fun s22 : Int32 => [.int s22, .ref (gh (xG X) + a0)]) (fun s22 hs23 => ?_) (fun j21 hj24 => ?_)
      · show S0 X _ q16.1 28 [some (.ref (gh (xG X) + a0)), some (.int p1), some (.int s7.2), none] [.int s22, .ref (gh (xG X) + a0)] _
        refine s_bind (fun q25 hq26 => ?_)
        have hC27 := hg_X12_bothOf X rfl rfl q16.1 a0 s22 q25 hq26
        refine s_callV (pc := 28) (As := [.int s22]) (st := []) (nlt rfl) (q := (RX12, TX12, 59)) rfl rfl o20 cl_X12_bothOf wi_X12_bothOf wl_X12_bothOf km_X12_344 rfl rfl (Nat.le_refl _) (nle rfl) (nle rfl) dX12_testOf_28 hC27 ?_
        have h28 := hC27.1 X
        have o29 := h28.ok o20
        show S0 X _ q25.1 31 [some (.ref (gh (xG X) + a0)), some (.int p1), some (.int s7.2), none] [.int q25.2] _
        refine s_istore_n (pc := 31) 3 dX12_testOf_31 rfl (nlt rfl) rfl (L' := [some (.ref (gh (xG X) + a0)), some (.int p1), some (.int s7.2), some (.int q25.2)]) rfl ?_
        refine s_iload_n (pc := 32) 2 dX12_testOf_32 rfl rfl ?_
        refine s_join q25.1 (fun s31 : Int32 => q25.1) 45 (fun s31 : Int32 => [some (.ref (gh (xG X) + a0)), some (.int p1), none, none]) (fun s31 : Int32 => [.int s31]) (fun s31 hs32 => ?_) (fun j30 hj33 => ?_)
        · show S0 X _ q25.1 45 [some (.ref (gh (xG X) + a0)), some (.int p1), none, none] [.int s31] _
          refine s_istore_n (pc := 45) 2 dX12_testOf_45 rfl (nlt rfl) rfl (L' := [some (.ref (gh (xG X) + a0)), some (.int p1), some (.int s31), none]) rfl ?_
          refine s_goto (pc := 46) 6 dX12_testOf_46 rfl ?_
          exact s_drop (hT10 (q25.1, s31) (hs8.tr (h19.tr h28))) (And.intro rfl (And.intro rfl (And.intro rfl trivial)))
        · refine s_join q25.1 (fun s35 : Unit => q25.1) 40 (fun s35 : Unit => [some (.ref (gh (xG X) + a0)), some (.int p1), none, none]) (fun s35 : Unit => []) (fun s35 hs36 => ?_) (fun j34 hj37 => ?_)
          · show S0 X _ q25.1 40 [some (.ref (gh (xG X) + a0)), some (.int p1), none, none] [] _
            refine s_iconst (pc := 40) 1 dX12_testOf_40 kc_1 ?_
            refine s_goto (pc := 41) 45 dX12_testOf_41 rfl ?_
            exact s_drop (hj33 1 Le.rf) (And.intro rfl (And.intro rfl trivial))
          · refine s_ifne (pc := 33) 40 dX12_testOf_33 rfl ?_ ?_
            · exact s_drop (hj37 () Le.rf) (And.intro rfl (And.intro rfl trivial))
            · refine s_iload_n (pc := 36) 3 dX12_testOf_36 rfl rfl ?_
              refine s_ifeq (pc := 37) 44 dX12_testOf_37 rfl ?_ ?_
              · refine s_iconst (pc := 44) 0 dX12_testOf_44 kc_0 ?_
                exact s_drop (hj33 0 Le.rf) (And.intro rfl (And.intro rfl trivial))
              · exact s_drop (hj37 () Le.rf) (And.intro rfl (And.intro rfl trivial))
      · refine s_join q16.1 (fun s39 : Unit => q16.1) 27 (fun s39 : Unit => [some (.ref (gh (xG X) + a0)), some (.int p1), some (.int s7.2), none]) (fun s39 : Unit => [.ref (gh (xG X) + a0)]) (fun s39 hs40 => ?_) (fun j38 hj41 => ?_)
        · show S0 X _ q16.1 27 [some (.ref (gh (xG X) + a0)), some (.int p1), some (.int s7.2), none] [.ref (gh (xG X) + a0)] _
          refine s_iconst (pc := 27) 0 dX12_testOf_27 kc_0 ?_
          exact s_drop (hj24 0 Le.rf) (And.intro rfl (And.intro rfl (And.intro rfl trivial)))
        · refine s_ifeq (pc := 16) 27 dX12_testOf_16 rfl ?_ ?_
          · exact s_drop (hj41 () Le.rf) (And.intro rfl (And.intro rfl (And.intro rfl trivial)))
          · refine s_iload_n (pc := 19) 2 dX12_testOf_19 rfl rfl ?_
            refine s_ifne (pc := 20) 27 dX12_testOf_20 rfl ?_ ?_
            · exact s_drop (hj41 () Le.rf) (And.intro rfl (And.intro rfl (And.intro rfl trivial)))
            · refine s_iconst (pc := 23) 1 dX12_testOf_23 kc_1 ?_
              refine s_goto (pc := 24) 28 dX12_testOf_24 rfl ?_
              exact s_drop (hj24 1 Le.rf) (And.intro rfl (And.intro rfl (And.intro rfl trivial)))
noncomputable def G_X12_bothOf : Nat → (Mem → Nat → Int32 → Option (Mem × Int32)) × (Mem → Nat → Int32 → Option (Mem × Int32)) × (Mem → Nat → Int32 → Option (Mem × Int32)) × (Mem → Nat → Int32 → Option (Mem × Int32))
  | 0 => ((fun _ _ _ => none), (fun _ _ _ => none), (fun _ _ _ => none), (fun _ _ _ => none))
  | d + 1 => (b_X12_bothOf ((G_X12_bothOf d).2.1), b_X12_plainOf ((G_X12_bothOf d).2.2.1), b_X12_positiveOf ((G_X12_bothOf d).2.2.2), b_X12_testOf ((G_X12_bothOf d).1))
noncomputable def f_X12_bothOf (d : Nat) : Mem → Nat → Int32 → Option (Mem × Int32) := (G_X12_bothOf d).1
noncomputable def f_X12_plainOf (d : Nat) : Mem → Nat → Int32 → Option (Mem × Int32) := (G_X12_bothOf d).2.1
noncomputable def f_X12_positiveOf (d : Nat) : Mem → Nat → Int32 → Option (Mem × Int32) := (G_X12_bothOf d).2.2.1
noncomputable def f_X12_testOf (d : Nat) : Mem → Nat → Int32 → Option (Mem × Int32) := (G_X12_bothOf d).2.2.2
set_option maxRecDepth 100000 in
theorem tg_X12_bothOf {l : Launch} {G : Gh} : ∀ d : Nat, (∀ (M : Mem) (a0 : Nat) (p1 : Int32) (q : Mem × Int32), f_X12_bothOf d M a0 p1 = some q → Ctr l G yX12_bothOf (Y_X12_bothOf d) M [.ref (gh G + a0), .int p1] q.1 (some (.int q.2))) ∧ (∀ (M : Mem) (a0 : Nat) (p1 : Int32) (q : Mem × Int32), f_X12_plainOf d M a0 p1 = some q → Ctr l G yX12_plainOf (Y_X12_plainOf d) M [.ref (gh G + a0), .int p1] q.1 (some (.int q.2))) ∧ (∀ (M : Mem) (a0 : Nat) (p1 : Int32) (q : Mem × Int32), f_X12_positiveOf d M a0 p1 = some q → Ctr l G yX12_positiveOf (Y_X12_positiveOf d) M [.ref (gh G + a0), .int p1] q.1 (some (.int q.2))) ∧ (∀ (M : Mem) (a0 : Nat) (p1 : Int32) (q : Mem × Int32), f_X12_testOf d M a0 p1 = some q → Ctr l G yX12_testOf (Y_X12_testOf d) M [.ref (gh G + a0), .int p1] q.1 (some (.int q.2))) := by
  intro d
  induction d with
  | zero => refine ⟨?_, ?_, ?_, ?_⟩ <;> (intros; rename_i h; cases h)
  | succ d ih =>
    obtain ⟨h0, h1, h2, h3⟩ := ih
    refine ⟨?_, ?_, ?_, ?_⟩
    · intro M a0 p1 q h
      exact t_X12_bothOf (fun X hG hl => by subst hG; subst hl; exact h1) h
    · intro M a0 p1 q h
      exact t_X12_plainOf (fun X hG hl => by subst hG; subst hl; exact h2) h
    · intro M a0 p1 q h
      exact t_X12_positiveOf (fun X hG hl => by subst hG; subst hl; exact h3) h
    · intro M a0 p1 q h
      exact t_X12_testOf (fun X hG hl => by subst hG; subst hl; exact h0) h
set_option maxRecDepth 100000 in
theorem tf_X12_bothOf {l : Launch} {G : Gh} {M : Mem} {a0 : Nat} {p1 : Int32} {q : Mem × Int32} (h : f_X12_bothOf 100 M a0 p1 = some q) : Ctr l G yX12_bothOf (Y_X12_bothOf 100) M [.ref (gh G + a0), .int p1] q.1 (some (.int q.2)) := (tg_X12_bothOf 100).1 _ _ _ _ h
set_option maxRecDepth 100000 in
theorem tf_X12_plainOf {l : Launch} {G : Gh} {M : Mem} {a0 : Nat} {p1 : Int32} {q : Mem × Int32} (h : f_X12_plainOf 100 M a0 p1 = some q) : Ctr l G yX12_plainOf (Y_X12_plainOf 100) M [.ref (gh G + a0), .int p1] q.1 (some (.int q.2)) := (tg_X12_bothOf 100).2.1 _ _ _ _ h
set_option maxRecDepth 100000 in
theorem tf_X12_positiveOf {l : Launch} {G : Gh} {M : Mem} {a0 : Nat} {p1 : Int32} {q : Mem × Int32} (h : f_X12_positiveOf 100 M a0 p1 = some q) : Ctr l G yX12_positiveOf (Y_X12_positiveOf 100) M [.ref (gh G + a0), .int p1] q.1 (some (.int q.2)) := (tg_X12_bothOf 100).2.2.1 _ _ _ _ h
set_option maxRecDepth 100000 in
theorem tf_X12_testOf {l : Launch} {G : Gh} {M : Mem} {a0 : Nat} {p1 : Int32} {q : Mem × Int32} (h : f_X12_testOf 100 M a0 p1 = some q) : Ctr l G yX12_testOf (Y_X12_testOf 100) M [.ref (gh G + a0), .int p1] q.1 (some (.int q.2)) := (tg_X12_bothOf 100).2.2.2 _ _ _ _ h
set_option maxRecDepth 100000 in
set_option maxHeartbeats 8000000 in
noncomputable def f_X12_nextSum (M : Mem) (a0 : Nat) (p1 : Int32) (p2 : Int32) : Option Mem :=
  grd (okO M 12 a0) (bv (wI M a0 28 0) (fun M2 => Option.bind (mR M2 a0 55) (fun r6 => Option.bind (f_X12_sumOf 100 M2 a0 p2) (fun q7 => grd (okO q7.1 15 r6) (grd (vp_in p1 (mL q7.1 r6)) (bv (wJ q7.1 r6 p1.toNatClampNeg q7.2) (fun M14 => bv (fun (s19 : Int32) => grd (pb s19) (bv (wI M14 a0 53 s19) (fun M22 => some M22))) (fun j18 => bv (fun (s27 : Unit) => j18 0) (fun j26 => if (mI M14 a0 53) = 0 then (j26 ()) else (if (mI M14 a0 28) = 0 then (j18 1) else (j26 ())))))))))))
abbrev Y_X12_nextSum : Sta := (RX12, "nextSum", cX12_nextSum, 3, none, 104)
set_option maxRecDepth 100000 in
set_option maxHeartbeats 8000000 in
theorem t_X12_nextSum {l : Launch} {G : Gh} {M : Mem} {a0 : Nat} {p1 : Int32} {p2 : Int32} {q : Mem} (h : f_X12_nextSum M a0 p1 p2 = some q) : Ctr l G yX12_nextSum Y_X12_nextSum M [.ref (gh G + a0), .int p1, .int p2] q (none) := by
  refine Ctr.of (Y := Y_X12_nextSum) (L := [some (.ref (gh G + a0)), some (.int p1), some (.int p2)]) (t := Option.bind (f_X12_nextSum M a0 p1 p2) (fun q => some (q, (none : Option Value)))) (by decide) rfl rfl (nle rfl) (Lof_in 0 _ rfl) (fun X hG hl => ?_) (by rw [h]; rfl)
  subst hG
  subst hl
  unfold f_X12_nextSum
  refine s_aload_n (pc := 0) 0 dX12_nextSum_0 rfl rfl ?_
  refine s_iconst (pc := 1) 0 dX12_nextSum_1 kc_0 ?_
  refine s_grd (fun o1 => ?_)
  refine s_puti (pc := 2) F_12 28 rfl o1 rfl rfl (by decide) dX12_nextSum_2 kf_X12_319 (fun M2 hM3 => ?_)
  have h4 := le_wI hM3
  have o5 := h4.ok o1
  refine s_aload_n (pc := 5) 0 dX12_nextSum_5 rfl rfl ?_
  refine s_geto (pc := 6) F_12 55 rfl o5 dX12_nextSum_6 kf_X12_114 ?_
  refine s_rvB (fun r6 => ?_)
  refine s_iload_n (pc := 9) 1 dX12_nextSum_9 rfl rfl ?_
  refine s_aload_n (pc := 10) 0 dX12_nextSum_10 rfl rfl ?_
  refine s_iload_n (pc := 11) 2 dX12_nextSum_11 rfl rfl ?_
  refine s_bind (fun q7 hq8 => ?_)
  have hC9 := tf_X12_sumOf (l := xl X) (G := xG X) hq8
  refine s_callV (pc := 12) (As := [.int p2]) (st := [.int p1, .ref (gh (xG X) + r6)]) (nlt rfl) (q := (RX12, TX12, 59)) rfl rfl o5 cl_X12_sumOf wi_X12_sumOf wl_X12_sumOf km_X12_336 rfl rfl (nle rfl) (nle rfl) (nle rfl) dX12_nextSum_12 hC9 ?_
  have h10 := hC9.1 X
  have o11 := h10.ok o5
  show S0 X _ q7.1 15 [some (.ref (gh (xG X) + a0)), some (.int p1), some (.int p2)] [.long q7.2, .int p1, .ref (gh (xG X) + r6)] _
  refine s_grd (fun o12 => ?_)
  refine s_grd (fun i13 => ?_)
  refine s_last (pc := 15) o12 i13 dX12_nextSum_15 (fun M14 hM15 => ?_)
  have h16 := le_wJ hM15
  have o17 := h16.ok o11
  refine s_aload_n (pc := 16) 0 dX12_nextSum_16 rfl rfl ?_
  refine s_aload_n (pc := 17) 0 dX12_nextSum_17 rfl rfl ?_
  refine s_geti (pc := 18) F_12 53 rfl o17 dX12_nextSum_18 kf_X12_431 ?_
  refine s_join M14 (fun s19 : Int32 => M14) 36 (fun s19 : Int32 => [none, none, none]) (fun s19 : Int32 => [.int s19, .ref (gh (xG X) + a0)]) (fun s19 hs20 => ?_) (fun j18 hj21 => ?_)
  · show S0 X _ M14 36 [none, none, none] [.int s19, .ref (gh (xG X) + a0)] _
    refine s_grd (fun g25 => ?_)
    refine s_puti (pc := 36) F_12 53 rfl o17 rfl g25.1 g25.2 dX12_nextSum_36 kf_X12_431 (fun M22 hM23 => ?_)
    have h24 := le_wI hM23
    exact s_vret rfl dX12_nextSum_39
  · refine s_join M14 (fun s27 : Unit => M14) 35 (fun s27 : Unit => [none, none, none]) (fun s27 : Unit => [.ref (gh (xG X) + a0)]) (fun s27 hs28 => ?_) (fun j26 hj29 => ?_)
    · show S0 X _ M14 35 [none, none, none] [.ref (gh (xG X) + a0)] _
      refine s_iconst (pc := 35) 0 dX12_nextSum_35 kc_0 ?_
      exact s_drop (hj21 0 Le.rf) trivial
    · refine s_ifeq (pc := 21) 35 dX12_nextSum_21 rfl ?_ ?_
      · exact s_drop (hj29 () Le.rf) trivial
      · refine s_aload_n (pc := 24) 0 dX12_nextSum_24 rfl rfl ?_
        refine s_geti (pc := 25) F_12 28 rfl o17 dX12_nextSum_25 kf_X12_319 ?_
        refine s_ifne (pc := 28) 35 dX12_nextSum_28 rfl ?_ ?_
        · exact s_drop (hj29 () Le.rf) trivial
        · refine s_iconst (pc := 31) 1 dX12_nextSum_31 kc_1 ?_
          refine s_goto (pc := 32) 36 dX12_nextSum_32 rfl ?_
          exact s_drop (hj21 1 Le.rf) trivial
abbrev Y_X7_both (d : Nat) : Sta := (RX7, "both", cX7_both, 4, (some .boolean), 104 + d)
abbrev Y_X7_inRound (d : Nat) : Sta := (RX7, "inRound", cX7_inRound, 2, (some .boolean), 104 + d)
abbrev Y_X7_plain (d : Nat) : Sta := (RX7, "plain", cX7_plain, 4, (some .boolean), 104 + d)
abbrev Y_X7_test (d : Nat) : Sta := (RX7, "test", cX7_test, 4, (some .boolean), 104 + d)
set_option maxRecDepth 100000 in
set_option maxHeartbeats 8000000 in
noncomputable def b_X7_both (g_X7_plain : Mem → Nat → Int32 → Option (Mem × Int32)) (M : Mem) (a0 : Nat) (p1 : Int32) : Option (Mem × Int32) :=
  grd (okO M 7 a0) (Option.bind (g_X7_plain M a0 p1) (fun q2 => if q2.2 = 0 then (some (q2.1, 0)) else (Option.bind (loopO (σ := Mem × Int32) (ρ := Mem ⊕ Mem) (fun s7 => if 400 ≤ s7.2 then (some (.inr (.inl s7.1))) else (if (mI s7.1 a0 8) = 264 then (Option.bind (mR s7.1 a0 3) (fun r20 => grd (okO s7.1 9 r20) (Option.bind (f_X9_emit s7.1 r20 13 0) (fun q22 => Option.bind (f_X7_next q22.1 a0) (fun q27 => Option.bind (g_X7_plain q27 a0 p1) (fun q32 => if q32.2 = 0 then (some (.inr (.inr q32.1))) else (Option.bind (mR q32.1 a0 3) (fun r37 => grd (okO q32.1 9 r37) (Option.bind (f_X9_aim q32.1 r37 q22.2) (fun q39 => bv (s7.2 + 1 : Int32) (fun x44 => some (.inl (q39, x44))))))))))))) else (some (.inr (.inl s7.1))))) (q2.1, 0)) (Sum.elim (fun (x16 : Mem) => some (x16, 1)) (fun (x18 : Mem) => some (x18, 0))))))
set_option maxRecDepth 100000 in
set_option maxHeartbeats 8000000 in
theorem t_X7_both {d : Nat} {g_X7_plain : Mem → Nat → Int32 → Option (Mem × Int32)} {l : Launch} {G : Gh} {M : Mem} {a0 : Nat} {p1 : Int32} {q : Mem × Int32} (hg_X7_plain : ∀ X : Ctx, xG X = G → xl X = l → ∀ (M : Mem) (a0 : Nat) (p1 : Int32) (q : Mem × Int32), g_X7_plain M a0 p1 = some q → Ctr (xl X) (xG X) yX7_plain (Y_X7_plain d) M [.ref (gh (xG X) + a0), .int p1] q.1 (some (.int q.2))) (h : b_X7_both g_X7_plain M a0 p1 = some q) : Ctr l G yX7_both (Y_X7_both (d + 1)) M [.ref (gh G + a0), .int p1] q.1 (some (.int q.2)) := by
  refine Ctr.of (Y := (Y_X7_both (d + 1))) (L := [some (.ref (gh G + a0)), some (.int p1), none, none]) (t := Option.bind (b_X7_both g_X7_plain M a0 p1) (fun q => some (q.1, some (.int q.2)))) (by decide) rfl rfl (nle rfl) (Lof_in 2 _ rfl) (fun X hG hl => ?_) (by rw [h]; rfl)
  subst hG
  subst hl
  unfold b_X7_both
  refine s_aload_n (pc := 0) 0 dX7_both_0 rfl rfl ?_
  refine s_iload_n (pc := 1) 1 dX7_both_1 rfl rfl ?_
  refine s_grd (fun o1 => ?_)
  refine s_bind (fun q2 hq3 => ?_)
  have hC4 := hg_X7_plain X rfl rfl M a0 p1 q2 hq3
  refine s_callV (pc := 2) (As := [.int p1]) (st := []) (nlt rfl) (q := (RX7, TX7, 10)) rfl rfl o1 cl_X7_plain wi_X7_plain wl_X7_plain km_X7_146 rfl rfl (Nat.le_refl _) (nle rfl) (nle rfl) dX7_both_2 hC4 ?_
  have h5 := hC4.1 X
  have o6 := h5.ok o1
  show S0 X _ q2.1 5 [some (.ref (gh (xG X) + a0)), some (.int p1), none, none] [.int q2.2] _
  refine s_ifne (pc := 5) 10 dX7_both_5 rfl ?_ ?_
  · refine s_iconst (pc := 10) 0 dX7_both_10 kc_0 ?_
    refine s_istore_n (pc := 11) 2 dX7_both_11 rfl (nlt rfl) rfl (L' := [some (.ref (gh (xG X) + a0)), some (.int p1), some (.int 0), none]) rfl ?_
    refine s_drop (L' := [some (.ref (gh (xG X) + a0)), some (.int p1), some (.int 0), none]) ?_ (And.intro rfl (And.intro rfl (And.intro rfl trivial)))
    refine s_loop2 q2.1 (fun s7 : Mem × Int32 => s7.1) (fun s7 : Mem × Int32 => [some (.ref (gh (xG X) + a0)), some (.int p1), some (.int s7.2), none]) (fun x16 : Mem => x16) 68 (fun x16 : Mem => [none, none, none, none]) (fun x18 : Mem => x18) 52 (fun x18 : Mem => [none, none, none, none]) (fun x16 hx17 => ?_) (fun x18 hx19 => ?_) (fun T9 R11 R13 hT10 hR12 hR14 s7 hs8 => ?_) (q2.1, 0) Le.rf
    · show S0 X _ x16 68 [none, none, none, none] [] _
      refine s_iconst (pc := 68) 1 dX7_both_68 kc_1 ?_
      exact s_zret rfl rfl dX7_both_69
    · show S0 X _ x18 52 [none, none, none, none] [] _
      refine s_iconst (pc := 52) 0 dX7_both_52 kc_0 ?_
      exact s_zret rfl rfl dX7_both_53
    · show S0 X _ s7.1 12 [some (.ref (gh (xG X) + a0)), some (.int p1), some (.int s7.2), none] [] _
      have o15 := hs8.ok o6
      refine s_iload_n (pc := 12) 2 dX7_both_12 rfl rfl ?_
      refine s_sipush (pc := 13) 400 dX7_both_13 ks_400 ?_
      refine s_icge (pc := 16) 68 dX7_both_16 rfl ?_ ?_
      · exact s_drop (hR12 s7.1 hs8) trivial
      · refine s_aload_n (pc := 19) 0 dX7_both_19 rfl rfl ?_
        refine s_geti (pc := 20) F_7 8 rfl o15 dX7_both_20 kf_X7_66 ?_
        refine s_sipush (pc := 23) 264 dX7_both_23 ks_264 ?_
        refine s_icne (pc := 26) 68 dX7_both_26 rfl ?_ ?_
        · exact s_drop (hR12 s7.1 hs8) trivial
        · refine s_aload_n (pc := 29) 0 dX7_both_29 rfl rfl ?_
          refine s_geto (pc := 30) F_7 3 rfl o15 dX7_both_30 kf_X7_26 ?_
          refine s_rvB (fun r20 => ?_)
          refine s_bipush (pc := 33) 13 dX7_both_33 kb_13 ?_
          refine s_iconst (pc := 35) 0 dX7_both_35 kc_0 ?_
          refine s_grd (fun o21 => ?_)
          refine s_bind (fun q22 hq23 => ?_)
          have hC24 := t_X9_emit (l := xl X) (G := xG X) hq23
          refine s_callV (pc := 36) (As := [.int 13, .int 0]) (st := []) (nlt rfl) (q := (RX9, TX9, 5)) rfl rfl o21 cl_X9_emit wi_X9_emit wl_X9_emit km_X7_134 rfl rfl (Nat.le_trans (nle rfl : _ ≤ 104) (Nat.le_add_right 104 _)) (nle rfl) (nle rfl) dX7_both_36 hC24 ?_
          have h25 := hC24.1 X
          have o26 := h25.ok o15
          show S0 X _ q22.1 39 [some (.ref (gh (xG X) + a0)), some (.int p1), some (.int s7.2), none] [.int q22.2] _
          refine s_istore_n (pc := 39) 3 dX7_both_39 rfl (nlt rfl) rfl (L' := [some (.ref (gh (xG X) + a0)), some (.int p1), some (.int s7.2), some (.int q22.2)]) rfl ?_
          refine s_aload_n (pc := 40) 0 dX7_both_40 rfl rfl ?_
          refine s_bind (fun q27 hq28 => ?_)
          have hC29 := t_X7_next (l := xl X) (G := xG X) hq28
          refine s_callV (pc := 41) (As := []) (st := []) (nlt rfl) (q := (RX7, TX7, 10)) rfl rfl o26 cl_X7_next wi_X7_next wl_X7_next km_X7_79 rfl rfl (Nat.le_trans (nle rfl : _ ≤ 104) (Nat.le_add_right 104 _)) (nle rfl) (nle rfl) dX7_both_41 hC29 ?_
          have h30 := hC29.1 X
          have o31 := h30.ok o26
          show S0 X _ q27 44 [some (.ref (gh (xG X) + a0)), some (.int p1), some (.int s7.2), some (.int q22.2)] [] _
          refine s_aload_n (pc := 44) 0 dX7_both_44 rfl rfl ?_
          refine s_iload_n (pc := 45) 1 dX7_both_45 rfl rfl ?_
          refine s_bind (fun q32 hq33 => ?_)
          have hC34 := hg_X7_plain X rfl rfl q27 a0 p1 q32 hq33
          refine s_callV (pc := 46) (As := [.int p1]) (st := []) (nlt rfl) (q := (RX7, TX7, 10)) rfl rfl o31 cl_X7_plain wi_X7_plain wl_X7_plain km_X7_146 rfl rfl (Nat.le_refl _) (nle rfl) (nle rfl) dX7_both_46 hC34 ?_
          have h35 := hC34.1 X
          have o36 := h35.ok o31
          show S0 X _ q32.1 49 [some (.ref (gh (xG X) + a0)), some (.int p1), some (.int s7.2), some (.int q22.2)] [.int q32.2] _
          refine s_ifne (pc := 49) 54 dX7_both_49 rfl ?_ ?_
          · refine s_aload_n (pc := 54) 0 dX7_both_54 rfl rfl ?_
            refine s_geto (pc := 55) F_7 3 rfl o36 dX7_both_55 kf_X7_26 ?_
            refine s_rvB (fun r37 => ?_)
            refine s_iload_n (pc := 58) 3 dX7_both_58 rfl rfl ?_
            refine s_grd (fun o38 => ?_)
            refine s_bind (fun q39 hq40 => ?_)
            have hC41 := t_X9_aim (l := xl X) (G := xG X) hq40
            refine s_callV (pc := 59) (As := [.int q22.2]) (st := []) (nlt rfl) (q := (RX9, TX9, 5)) rfl rfl o38 cl_X9_aim wi_X9_aim wl_X9_aim km_X7_143 rfl rfl (Nat.le_trans (nle rfl : _ ≤ 104) (Nat.le_add_right 104 _)) (nle rfl) (nle rfl) dX7_both_59 hC41 ?_
            have h42 := hC41.1 X
            have o43 := h42.ok o36
            show S0 X _ q39 62 [some (.ref (gh (xG X) + a0)), some (.int p1), some (.int s7.2), some (.int q22.2)] [] _
            refine s_iinc (pc := 62) dX7_both_62 rfl (v := s7.2 + 1) (congrArg (fun z : Int32 => s7.2 + z) kc_1) (nlt rfl) rfl (L' := [some (.ref (gh (xG X) + a0)), some (.int p1), some (.int (s7.2 + 1)), some (.int q22.2)]) rfl ?_
            refine s_bv (fun x44 : Int32 => [some (.ref (gh (xG X) + a0)), some (.int p1), some (.int x44), some (.int q22.2)]) (fun x44 => ?_) rfl
            refine s_goto (pc := 65) 12 dX7_both_65 rfl ?_
            exact s_drop (hT10 (q39, x44) (hs8.tr (h25.tr (h30.tr (h35.tr h42))))) (And.intro rfl (And.intro rfl (And.intro rfl trivial)))
          · exact s_drop (hR14 q32.1 (hs8.tr (h25.tr (h30.tr h35)))) trivial
  · refine s_iconst (pc := 8) 0 dX7_both_8 kc_0 ?_
    exact s_zret rfl rfl dX7_both_9
set_option maxRecDepth 100000 in
set_option maxHeartbeats 8000000 in
noncomputable def b_X7_inRound (g_X7_test : Mem → Nat → Int32 → Option (Mem × Int32)) (M : Mem) (a0 : Nat) (p1 : Int32) : Option (Mem × Int32) :=
  if p1 < 8 then (grd (okO M 7 a0) (Option.bind (f_X7_next M a0) (fun q2 => Option.bind (g_X7_test q2 a0 (p1 + 1)) (fun q7 => if q7.2 = 0 then (some (q7.1, 0)) else (if (mI q7.1 a0 8) = 41 then (Option.bind (f_X7_next q7.1 a0) (fun q12 => some (q12, 1))) else (Option.bind (f_X7_fail q7.1 a0) (fun q17 => grd (bl q17.2) (some (q17.1, q17.2))))))))) else (grd (okO M 7 a0) (Option.bind (f_X7_fail M a0) (fun q24 => grd (bl q24.2) (some (q24.1, q24.2)))))
set_option maxRecDepth 100000 in
set_option maxHeartbeats 8000000 in
theorem t_X7_inRound {d : Nat} {g_X7_test : Mem → Nat → Int32 → Option (Mem × Int32)} {l : Launch} {G : Gh} {M : Mem} {a0 : Nat} {p1 : Int32} {q : Mem × Int32} (hg_X7_test : ∀ X : Ctx, xG X = G → xl X = l → ∀ (M : Mem) (a0 : Nat) (p1 : Int32) (q : Mem × Int32), g_X7_test M a0 p1 = some q → Ctr (xl X) (xG X) yX7_test (Y_X7_test d) M [.ref (gh (xG X) + a0), .int p1] q.1 (some (.int q.2))) (h : b_X7_inRound g_X7_test M a0 p1 = some q) : Ctr l G yX7_inRound (Y_X7_inRound (d + 1)) M [.ref (gh G + a0), .int p1] q.1 (some (.int q.2)) := by
  refine Ctr.of (Y := (Y_X7_inRound (d + 1))) (L := [some (.ref (gh G + a0)), some (.int p1)]) (t := Option.bind (b_X7_inRound g_X7_test M a0 p1) (fun q => some (q.1, some (.int q.2)))) (by decide) rfl rfl (nle rfl) (Lof_in 0 _ rfl) (fun X hG hl => ?_) (by rw [h]; rfl)
  subst hG
  subst hl
  unfold b_X7_inRound
  refine s_iload_n (pc := 0) 1 dX7_inRound_0 rfl rfl ?_
  refine s_bipush (pc := 1) 8 dX7_inRound_1 kb_8 ?_
  refine s_iclt (pc := 3) 11 dX7_inRound_3 rfl ?_ ?_
  · refine s_aload_n (pc := 11) 0 dX7_inRound_11 rfl rfl ?_
    refine s_grd (fun o1 => ?_)
    refine s_bind (fun q2 hq3 => ?_)
    have hC4 := t_X7_next (l := xl X) (G := xG X) hq3
    refine s_callV (pc := 12) (As := []) (st := []) (nlt rfl) (q := (RX7, TX7, 10)) rfl rfl o1 cl_X7_next wi_X7_next wl_X7_next km_X7_79 rfl rfl (Nat.le_trans (nle rfl : _ ≤ 104) (Nat.le_add_right 104 _)) (nle rfl) (nle rfl) dX7_inRound_12 hC4 ?_
    have h5 := hC4.1 X
    have o6 := h5.ok o1
    show S0 X _ q2 15 [some (.ref (gh (xG X) + a0)), some (.int p1)] [] _
    refine s_aload_n (pc := 15) 0 dX7_inRound_15 rfl rfl ?_
    refine s_iload_n (pc := 16) 1 dX7_inRound_16 rfl rfl ?_
    refine s_iconst (pc := 17) 1 dX7_inRound_17 kc_1 ?_
    refine s_iadd (pc := 18) dX7_inRound_18 ?_
    refine s_bind (fun q7 hq8 => ?_)
    have hC9 := hg_X7_test X rfl rfl q2 a0 (p1 + 1) q7 hq8
    refine s_callV (pc := 19) (As := [.int (p1 + 1)]) (st := []) (nlt rfl) (q := (RX7, TX7, 10)) rfl rfl o6 cl_X7_test wi_X7_test wl_X7_test km_X7_129 rfl rfl (Nat.le_refl _) (nle rfl) (nle rfl) dX7_inRound_19 hC9 ?_
    have h10 := hC9.1 X
    have o11 := h10.ok o6
    show S0 X _ q7.1 22 [some (.ref (gh (xG X) + a0)), some (.int p1)] [.int q7.2] _
    refine s_ifne (pc := 22) 27 dX7_inRound_22 rfl ?_ ?_
    · refine s_aload_n (pc := 27) 0 dX7_inRound_27 rfl rfl ?_
      refine s_geti (pc := 28) F_7 8 rfl o11 dX7_inRound_28 kf_X7_66 ?_
      refine s_bipush (pc := 31) 41 dX7_inRound_31 kb_41 ?_
      refine s_iceq (pc := 33) 41 dX7_inRound_33 rfl ?_ ?_
      · refine s_aload_n (pc := 41) 0 dX7_inRound_41 rfl rfl ?_
        refine s_bind (fun q12 hq13 => ?_)
        have hC14 := t_X7_next (l := xl X) (G := xG X) hq13
        refine s_callV (pc := 42) (As := []) (st := []) (nlt rfl) (q := (RX7, TX7, 10)) rfl rfl o11 cl_X7_next wi_X7_next wl_X7_next km_X7_79 rfl rfl (Nat.le_trans (nle rfl : _ ≤ 104) (Nat.le_add_right 104 _)) (nle rfl) (nle rfl) dX7_inRound_42 hC14 ?_
        have h15 := hC14.1 X
        have o16 := h15.ok o11
        show S0 X _ q12 45 [some (.ref (gh (xG X) + a0)), some (.int p1)] [] _
        refine s_iconst (pc := 45) 1 dX7_inRound_45 kc_1 ?_
        exact s_zret rfl rfl dX7_inRound_46
      · refine s_aload_n (pc := 36) 0 dX7_inRound_36 rfl rfl ?_
        refine s_bind (fun q17 hq18 => ?_)
        have hC19 := t_X7_fail (l := xl X) (G := xG X) hq18
        refine s_callV (pc := 37) (As := []) (st := []) (nlt rfl) (q := (RX7, TX7, 10)) rfl rfl o11 cl_X7_fail wi_X7_fail wl_X7_fail km_X7_76 rfl rfl (Nat.le_trans (nle rfl : _ ≤ 104) (Nat.le_add_right 104 _)) (nle rfl) (nle rfl) dX7_inRound_37 hC19 ?_
        have h20 := hC19.1 X
        have o21 := h20.ok o11
        show S0 X _ q17.1 40 [some (.ref (gh (xG X) + a0)), some (.int p1)] [.int q17.2] _
        refine s_grd (fun g22 => ?_)
        exact s_zret rfl g22 dX7_inRound_40
    · refine s_iconst (pc := 25) 0 dX7_inRound_25 kc_0 ?_
      exact s_zret rfl rfl dX7_inRound_26
  · refine s_aload_n (pc := 6) 0 dX7_inRound_6 rfl rfl ?_
    refine s_grd (fun o23 => ?_)
    refine s_bind (fun q24 hq25 => ?_)
    have hC26 := t_X7_fail (l := xl X) (G := xG X) hq25
    refine s_callV (pc := 7) (As := []) (st := []) (nlt rfl) (q := (RX7, TX7, 10)) rfl rfl o23 cl_X7_fail wi_X7_fail wl_X7_fail km_X7_76 rfl rfl (Nat.le_trans (nle rfl : _ ≤ 104) (Nat.le_add_right 104 _)) (nle rfl) (nle rfl) dX7_inRound_7 hC26 ?_
    have h27 := hC26.1 X
    have o28 := h27.ok o23
    show S0 X _ q24.1 10 [some (.ref (gh (xG X) + a0)), some (.int p1)] [.int q24.2] _
    refine s_grd (fun g29 => ?_)
    exact s_zret rfl g29 dX7_inRound_10
set_option maxRecDepth 100000 in
set_option maxHeartbeats 8000000 in
noncomputable def b_X7_plain (g_X7_inRound : Mem → Nat → Int32 → Option (Mem × Int32)) (M : Mem) (a0 : Nat) (p1 : Int32) : Option (Mem × Int32) :=
  Option.bind (loopO (σ := Mem × Int32 × Int32) (ρ := Mem × Int32) (fun s1 => if 400 ≤ s1.2.2 then (some (.inr (s1.1, s1.2.1))) else (grd (okO s1.1 7 a0) (if (mI s1.1 a0 8) = 265 then (bv (fun (s11 : Int32) => Option.bind (f_X7_next s1.1 a0) (fun q14 => bv (s1.2.2 + 1 : Int32) (fun x19 => some (.inl (q14, s11, x19))))) (fun j10 => if s1.2.1 = 0 then (j10 1) else (j10 0))) else (some (.inr (s1.1, s1.2.1)))))) (M, 0, 0)) (fun (x7 : Mem × Int32) => grd (okO x7.1 7 a0) (bv (fun (s22 : Mem) => if x7.2 = 0 then (some (s22, 1)) else (Option.bind (mR s22 a0 3) (fun r26 => grd (okO s22 9 r26) (Option.bind (f_X9_emit s22 r26 11 0) (fun q28 => some (q28.1, 1)))))) (fun j21 => if (mI x7.1 a0 8) = 40 then (Option.bind (g_X7_inRound x7.1 a0 p1) (fun q64 => if q64.2 = 0 then (some (q64.1, 0)) else (j21 q64.1))) else (Option.bind (f_X7_sum 100 x7.1 a0 p1) (fun q33 => if q33.2 = 0 then (some (q33.1, 0)) else (Option.bind (f_X7_opOf q33.1 a0 8 10) (fun q38 => if q38 = (-1) then (Option.bind (f_X7_fail q33.1 a0) (fun q58 => grd (bl q58.2) (some (q58.1, q58.2)))) else (Option.bind (f_X7_next q33.1 a0) (fun q41 => Option.bind (f_X7_sum 100 q41 a0 p1) (fun q46 => if q46.2 = 0 then (some (q46.1, 0)) else (Option.bind (mR q46.1 a0 3) (fun r51 => grd (okO q46.1 9 r51) (Option.bind (f_X9_emit q46.1 r51 q38 0) (fun q53 => j21 q53.1))))))))))))))
set_option maxRecDepth 100000 in
set_option maxHeartbeats 8000000 in
theorem t_X7_plain {d : Nat} {g_X7_inRound : Mem → Nat → Int32 → Option (Mem × Int32)} {l : Launch} {G : Gh} {M : Mem} {a0 : Nat} {p1 : Int32} {q : Mem × Int32} (hg_X7_inRound : ∀ X : Ctx, xG X = G → xl X = l → ∀ (M : Mem) (a0 : Nat) (p1 : Int32) (q : Mem × Int32), g_X7_inRound M a0 p1 = some q → Ctr (xl X) (xG X) yX7_inRound (Y_X7_inRound d) M [.ref (gh (xG X) + a0), .int p1] q.1 (some (.int q.2))) (h : b_X7_plain g_X7_inRound M a0 p1 = some q) : Ctr l G yX7_plain (Y_X7_plain (d + 1)) M [.ref (gh G + a0), .int p1] q.1 (some (.int q.2)) := by
  refine Ctr.of (Y := (Y_X7_plain (d + 1))) (L := [some (.ref (gh G + a0)), some (.int p1), none, none]) (t := Option.bind (b_X7_plain g_X7_inRound M a0 p1) (fun q => some (q.1, some (.int q.2)))) (by decide) rfl rfl (nle rfl) (Lof_in 2 _ rfl) (fun X hG hl => ?_) (by rw [h]; rfl)
  subst hG
  subst hl
  unfold b_X7_plain
  refine s_iconst (pc := 0) 0 dX7_plain_0 kc_0 ?_
  refine s_istore_n (pc := 1) 2 dX7_plain_1 rfl (nlt rfl) rfl (L' := [some (.ref (gh (xG X) + a0)), some (.int p1), some (.int 0), none]) rfl ?_
  refine s_iconst (pc := 2) 0 dX7_plain_2 kc_0 ?_
  refine s_istore_n (pc := 3) 3 dX7_plain_3 rfl (nlt rfl) rfl (L' := [some (.ref (gh (xG X) + a0)), some (.int p1), some (.int 0), some (.int 0)]) rfl ?_
  refine s_drop (L' := [some (.ref (gh (xG X) + a0)), some (.int p1), some (.int 0), some (.int 0)]) ?_ (And.intro rfl (And.intro rfl (And.intro rfl (And.intro rfl trivial))))
  refine s_loop1 M (fun s1 : Mem × Int32 × Int32 => s1.1) (fun s1 : Mem × Int32 × Int32 => [some (.ref (gh (xG X) + a0)), some (.int p1), some (.int s1.2.1), some (.int s1.2.2)]) (fun x7 : Mem × Int32 => x7.1) 41 (fun x7 : Mem × Int32 => [some (.ref (gh (xG X) + a0)), some (.int p1), some (.int x7.2), none]) (fun x7 hx8 => ?_) (fun T3 R5 hT4 hR6 s1 hs2 => ?_) (M, 0, 0) Le.rf
  · show S0 X _ x7.1 41 [some (.ref (gh (xG X) + a0)), some (.int p1), some (.int x7.2), none] [] _
    refine s_aload_n (pc := 41) 0 dX7_plain_41 rfl rfl ?_
    refine s_grd (fun o20 => ?_)
    refine s_geti (pc := 42) F_7 8 rfl o20 dX7_plain_42 kf_X7_66 ?_
    refine s_bipush (pc := 45) 40 dX7_plain_45 kb_40 ?_
    refine s_join x7.1 (fun s22 : Mem => s22) 113 (fun s22 : Mem => [some (.ref (gh (xG X) + a0)), none, some (.int x7.2), none]) (fun s22 : Mem => []) (fun s22 hs23 => ?_) (fun j21 hj24 => ?_)
    · show S0 X _ s22 113 [some (.ref (gh (xG X) + a0)), none, some (.int x7.2), none] [] _
      have o25 := hs23.ok o20
      refine s_iload_n (pc := 113) 2 dX7_plain_113 rfl rfl ?_
      refine s_ifeq (pc := 114) 128 dX7_plain_114 rfl ?_ ?_
      · refine s_iconst (pc := 128) 1 dX7_plain_128 kc_1 ?_
        exact s_zret rfl rfl dX7_plain_129
      · refine s_aload_n (pc := 117) 0 dX7_plain_117 rfl rfl ?_
        refine s_geto (pc := 118) F_7 3 rfl o25 dX7_plain_118 kf_X7_26 ?_
        refine s_rvB (fun r26 => ?_)
        refine s_bipush (pc := 121) 11 dX7_plain_121 kb_11 ?_
        refine s_iconst (pc := 123) 0 dX7_plain_123 kc_0 ?_
        refine s_grd (fun o27 => ?_)
        refine s_bind (fun q28 hq29 => ?_)
        have hC30 := t_X9_emit (l := xl X) (G := xG X) hq29
        refine s_callV (pc := 124) (As := [.int 11, .int 0]) (st := []) (nlt rfl) (q := (RX9, TX9, 5)) rfl rfl o27 cl_X9_emit wi_X9_emit wl_X9_emit km_X7_134 rfl rfl (Nat.le_trans (nle rfl : _ ≤ 104) (Nat.le_add_right 104 _)) (nle rfl) (nle rfl) dX7_plain_124 hC30 ?_
        have h31 := hC30.1 X
        have o32 := h31.ok o25
        show S0 X _ q28.1 127 [some (.ref (gh (xG X) + a0)), none, some (.int x7.2), none] [.int q28.2] _
        refine s_pop (pc := 127) dX7_plain_127 rfl ?_
        refine s_iconst (pc := 128) 1 dX7_plain_128 kc_1 ?_
        exact s_zret rfl rfl dX7_plain_129
    · refine s_icne (pc := 47) 60 dX7_plain_47 rfl ?_ ?_
      · refine s_aload_n (pc := 60) 0 dX7_plain_60 rfl rfl ?_
        refine s_iload_n (pc := 61) 1 dX7_plain_61 rfl rfl ?_
        refine s_bind (fun q33 hq34 => ?_)
        have hC35 := tf_X7_sum (l := xl X) (G := xG X) hq34
        refine s_callV (pc := 62) (As := [.int p1]) (st := []) (nlt rfl) (q := (RX7, TX7, 10)) rfl rfl o20 cl_X7_sum wi_X7_sum wl_X7_sum km_X7_137 rfl rfl (Nat.le_trans (nle rfl : _ ≤ 104) (Nat.le_add_right 104 _)) (nle rfl) (nle rfl) dX7_plain_62 hC35 ?_
        have h36 := hC35.1 X
        have o37 := h36.ok o20
        show S0 X _ q33.1 65 [some (.ref (gh (xG X) + a0)), some (.int p1), some (.int x7.2), none] [.int q33.2] _
        refine s_ifne (pc := 65) 70 dX7_plain_65 rfl ?_ ?_
        · refine s_aload_n (pc := 70) 0 dX7_plain_70 rfl rfl ?_
          refine s_bipush (pc := 71) 8 dX7_plain_71 kb_8 ?_
          refine s_bipush (pc := 73) 10 dX7_plain_73 kb_10 ?_
          refine s_bind (fun q38 hq39 => ?_)
          have hC40 := t_X7_opOf (l := xl X) (G := xG X) hq39
          refine s_callV (pc := 75) (As := [.int 8, .int 10]) (st := []) (nlt rfl) (q := (RX7, TX7, 10)) rfl rfl o37 cl_X7_opOf wi_X7_opOf wl_X7_opOf km_X7_152 rfl rfl (Nat.le_trans (nle rfl : _ ≤ 104) (Nat.le_add_right 104 _)) (nle rfl) (nle rfl) dX7_plain_75 hC40 ?_
          show S0 X _ q33.1 78 [some (.ref (gh (xG X) + a0)), some (.int p1), some (.int x7.2), none] [.int q38] _
          refine s_istore_n (pc := 78) 3 dX7_plain_78 rfl (nlt rfl) rfl (L' := [some (.ref (gh (xG X) + a0)), some (.int p1), some (.int x7.2), some (.int q38)]) rfl ?_
          refine s_iload_n (pc := 79) 3 dX7_plain_79 rfl rfl ?_
          refine s_iconst (pc := 80) (-1) dX7_plain_80 kc_m1 ?_
          refine s_icne (pc := 81) 89 dX7_plain_81 rfl ?_ ?_
          · refine s_aload_n (pc := 89) 0 dX7_plain_89 rfl rfl ?_
            refine s_bind (fun q41 hq42 => ?_)
            have hC43 := t_X7_next (l := xl X) (G := xG X) hq42
            refine s_callV (pc := 90) (As := []) (st := []) (nlt rfl) (q := (RX7, TX7, 10)) rfl rfl o37 cl_X7_next wi_X7_next wl_X7_next km_X7_79 rfl rfl (Nat.le_trans (nle rfl : _ ≤ 104) (Nat.le_add_right 104 _)) (nle rfl) (nle rfl) dX7_plain_90 hC43 ?_
            have h44 := hC43.1 X
            have o45 := h44.ok o37
            show S0 X _ q41 93 [some (.ref (gh (xG X) + a0)), some (.int p1), some (.int x7.2), some (.int q38)] [] _
            refine s_aload_n (pc := 93) 0 dX7_plain_93 rfl rfl ?_
            refine s_iload_n (pc := 94) 1 dX7_plain_94 rfl rfl ?_
            refine s_bind (fun q46 hq47 => ?_)
            have hC48 := tf_X7_sum (l := xl X) (G := xG X) hq47
            refine s_callV (pc := 95) (As := [.int p1]) (st := []) (nlt rfl) (q := (RX7, TX7, 10)) rfl rfl o45 cl_X7_sum wi_X7_sum wl_X7_sum km_X7_137 rfl rfl (Nat.le_trans (nle rfl : _ ≤ 104) (Nat.le_add_right 104 _)) (nle rfl) (nle rfl) dX7_plain_95 hC48 ?_
            have h49 := hC48.1 X
            have o50 := h49.ok o45
            show S0 X _ q46.1 98 [some (.ref (gh (xG X) + a0)), some (.int p1), some (.int x7.2), some (.int q38)] [.int q46.2] _
            refine s_ifne (pc := 98) 103 dX7_plain_98 rfl ?_ ?_
            · refine s_aload_n (pc := 103) 0 dX7_plain_103 rfl rfl ?_
              refine s_geto (pc := 104) F_7 3 rfl o50 dX7_plain_104 kf_X7_26 ?_
              refine s_rvB (fun r51 => ?_)
              refine s_iload_n (pc := 107) 3 dX7_plain_107 rfl rfl ?_
              refine s_iconst (pc := 108) 0 dX7_plain_108 kc_0 ?_
              refine s_grd (fun o52 => ?_)
              refine s_bind (fun q53 hq54 => ?_)
              have hC55 := t_X9_emit (l := xl X) (G := xG X) hq54
              refine s_callV (pc := 109) (As := [.int q38, .int 0]) (st := []) (nlt rfl) (q := (RX9, TX9, 5)) rfl rfl o52 cl_X9_emit wi_X9_emit wl_X9_emit km_X7_134 rfl rfl (Nat.le_trans (nle rfl : _ ≤ 104) (Nat.le_add_right 104 _)) (nle rfl) (nle rfl) dX7_plain_109 hC55 ?_
              have h56 := hC55.1 X
              have o57 := h56.ok o50
              show S0 X _ q53.1 112 [some (.ref (gh (xG X) + a0)), some (.int p1), some (.int x7.2), some (.int q38)] [.int q53.2] _
              refine s_pop (pc := 112) dX7_plain_112 rfl ?_
              exact s_drop (hj24 q53.1 (h36.tr (h44.tr (h49.tr h56)))) (And.intro rfl (And.intro rfl trivial))
            · refine s_iconst (pc := 101) 0 dX7_plain_101 kc_0 ?_
              exact s_zret rfl rfl dX7_plain_102
          · refine s_aload_n (pc := 84) 0 dX7_plain_84 rfl rfl ?_
            refine s_bind (fun q58 hq59 => ?_)
            have hC60 := t_X7_fail (l := xl X) (G := xG X) hq59
            refine s_callV (pc := 85) (As := []) (st := []) (nlt rfl) (q := (RX7, TX7, 10)) rfl rfl o37 cl_X7_fail wi_X7_fail wl_X7_fail km_X7_76 rfl rfl (Nat.le_trans (nle rfl : _ ≤ 104) (Nat.le_add_right 104 _)) (nle rfl) (nle rfl) dX7_plain_85 hC60 ?_
            have h61 := hC60.1 X
            have o62 := h61.ok o37
            show S0 X _ q58.1 88 [some (.ref (gh (xG X) + a0)), some (.int p1), some (.int x7.2), some (.int q38)] [.int q58.2] _
            refine s_grd (fun g63 => ?_)
            exact s_zret rfl g63 dX7_plain_88
        · refine s_iconst (pc := 68) 0 dX7_plain_68 kc_0 ?_
          exact s_zret rfl rfl dX7_plain_69
      · refine s_aload_n (pc := 50) 0 dX7_plain_50 rfl rfl ?_
        refine s_iload_n (pc := 51) 1 dX7_plain_51 rfl rfl ?_
        refine s_bind (fun q64 hq65 => ?_)
        have hC66 := hg_X7_inRound X rfl rfl x7.1 a0 p1 q64 hq65
        refine s_callV (pc := 52) (As := [.int p1]) (st := []) (nlt rfl) (q := (RX7, TX7, 10)) rfl rfl o20 cl_X7_inRound wi_X7_inRound wl_X7_inRound km_X7_149 rfl rfl (Nat.le_refl _) (nle rfl) (nle rfl) dX7_plain_52 hC66 ?_
        have h67 := hC66.1 X
        have o68 := h67.ok o20
        show S0 X _ q64.1 55 [some (.ref (gh (xG X) + a0)), some (.int p1), some (.int x7.2), none] [.int q64.2] _
        refine s_ifne (pc := 55) 113 dX7_plain_55 rfl ?_ ?_
        · exact s_drop (hj24 q64.1 h67) (And.intro rfl (And.intro rfl trivial))
        · refine s_iconst (pc := 58) 0 dX7_plain_58 kc_0 ?_
          exact s_zret rfl rfl dX7_plain_59
  · show S0 X _ s1.1 4 [some (.ref (gh (xG X) + a0)), some (.int p1), some (.int s1.2.1), some (.int s1.2.2)] [] _
    refine s_iload_n (pc := 4) 3 dX7_plain_4 rfl rfl ?_
    refine s_sipush (pc := 5) 400 dX7_plain_5 ks_400 ?_
    refine s_icge (pc := 8) 41 dX7_plain_8 rfl ?_ ?_
    · exact s_drop (hR6 (s1.1, s1.2.1) hs2) (And.intro rfl (And.intro rfl (And.intro rfl trivial)))
    · refine s_aload_n (pc := 11) 0 dX7_plain_11 rfl rfl ?_
      refine s_grd (fun o9 => ?_)
      refine s_geti (pc := 12) F_7 8 rfl o9 dX7_plain_12 kf_X7_66 ?_
      refine s_sipush (pc := 15) 265 dX7_plain_15 ks_265 ?_
      refine s_icne (pc := 18) 41 dX7_plain_18 rfl ?_ ?_
      · exact s_drop (hR6 (s1.1, s1.2.1) hs2) (And.intro rfl (And.intro rfl (And.intro rfl trivial)))
      · refine s_iload_n (pc := 21) 2 dX7_plain_21 rfl rfl ?_
        refine s_join s1.1 (fun s11 : Int32 => s1.1) 30 (fun s11 : Int32 => [some (.ref (gh (xG X) + a0)), some (.int p1), none, some (.int s1.2.2)]) (fun s11 : Int32 => [.int s11]) (fun s11 hs12 => ?_) (fun j10 hj13 => ?_)
        · show S0 X _ s1.1 30 [some (.ref (gh (xG X) + a0)), some (.int p1), none, some (.int s1.2.2)] [.int s11] _
          refine s_istore_n (pc := 30) 2 dX7_plain_30 rfl (nlt rfl) rfl (L' := [some (.ref (gh (xG X) + a0)), some (.int p1), some (.int s11), some (.int s1.2.2)]) rfl ?_
          refine s_aload_n (pc := 31) 0 dX7_plain_31 rfl rfl ?_
          refine s_bind (fun q14 hq15 => ?_)
          have hC16 := t_X7_next (l := xl X) (G := xG X) hq15
          refine s_callV (pc := 32) (As := []) (st := []) (nlt rfl) (q := (RX7, TX7, 10)) rfl rfl o9 cl_X7_next wi_X7_next wl_X7_next km_X7_79 rfl rfl (Nat.le_trans (nle rfl : _ ≤ 104) (Nat.le_add_right 104 _)) (nle rfl) (nle rfl) dX7_plain_32 hC16 ?_
          have h17 := hC16.1 X
          have o18 := h17.ok o9
          show S0 X _ q14 35 [some (.ref (gh (xG X) + a0)), some (.int p1), some (.int s11), some (.int s1.2.2)] [] _
          refine s_iinc (pc := 35) dX7_plain_35 rfl (v := s1.2.2 + 1) (congrArg (fun z : Int32 => s1.2.2 + z) kc_1) (nlt rfl) rfl (L' := [some (.ref (gh (xG X) + a0)), some (.int p1), some (.int s11), some (.int (s1.2.2 + 1))]) rfl ?_
          refine s_bv (fun x19 : Int32 => [some (.ref (gh (xG X) + a0)), some (.int p1), some (.int s11), some (.int x19)]) (fun x19 => ?_) rfl
          refine s_goto (pc := 38) 4 dX7_plain_38 rfl ?_
          exact s_drop (hT4 (q14, s11, x19) (hs2.tr h17)) (And.intro rfl (And.intro rfl (And.intro rfl (And.intro rfl trivial))))
        · refine s_ifne (pc := 22) 29 dX7_plain_22 rfl ?_ ?_
          · refine s_iconst (pc := 29) 0 dX7_plain_29 kc_0 ?_
            exact s_drop (hj13 0 Le.rf) (And.intro rfl (And.intro rfl (And.intro rfl trivial)))
          · refine s_iconst (pc := 25) 1 dX7_plain_25 kc_1 ?_
            refine s_goto (pc := 26) 30 dX7_plain_26 rfl ?_
            exact s_drop (hj13 1 Le.rf) (And.intro rfl (And.intro rfl (And.intro rfl trivial)))
set_option maxRecDepth 100000 in
set_option maxHeartbeats 8000000 in
noncomputable def b_X7_test (g_X7_both : Mem → Nat → Int32 → Option (Mem × Int32)) (M : Mem) (a0 : Nat) (p1 : Int32) : Option (Mem × Int32) :=
  grd (okO M 7 a0) (Option.bind (g_X7_both M a0 p1) (fun q2 => if q2.2 = 0 then (some (q2.1, 0)) else (Option.bind (loopO (σ := Mem × Int32) (ρ := Mem ⊕ Mem) (fun s7 => if 400 ≤ s7.2 then (some (.inr (.inl s7.1))) else (if (mI s7.1 a0 8) = 263 then (Option.bind (mR s7.1 a0 3) (fun r20 => grd (okO s7.1 9 r20) (Option.bind (f_X9_emit s7.1 r20 12 0) (fun q22 => Option.bind (f_X7_next q22.1 a0) (fun q27 => Option.bind (g_X7_both q27 a0 p1) (fun q32 => if q32.2 = 0 then (some (.inr (.inr q32.1))) else (Option.bind (mR q32.1 a0 3) (fun r37 => grd (okO q32.1 9 r37) (Option.bind (f_X9_aim q32.1 r37 q22.2) (fun q39 => bv (s7.2 + 1 : Int32) (fun x44 => some (.inl (q39, x44))))))))))))) else (some (.inr (.inl s7.1))))) (q2.1, 0)) (Sum.elim (fun (x16 : Mem) => some (x16, 1)) (fun (x18 : Mem) => some (x18, 0))))))
set_option maxRecDepth 100000 in
set_option maxHeartbeats 8000000 in
theorem t_X7_test {d : Nat} {g_X7_both : Mem → Nat → Int32 → Option (Mem × Int32)} {l : Launch} {G : Gh} {M : Mem} {a0 : Nat} {p1 : Int32} {q : Mem × Int32} (hg_X7_both : ∀ X : Ctx, xG X = G → xl X = l → ∀ (M : Mem) (a0 : Nat) (p1 : Int32) (q : Mem × Int32), g_X7_both M a0 p1 = some q → Ctr (xl X) (xG X) yX7_both (Y_X7_both d) M [.ref (gh (xG X) + a0), .int p1] q.1 (some (.int q.2))) (h : b_X7_test g_X7_both M a0 p1 = some q) : Ctr l G yX7_test (Y_X7_test (d + 1)) M [.ref (gh G + a0), .int p1] q.1 (some (.int q.2)) := by
  refine Ctr.of (Y := (Y_X7_test (d + 1))) (L := [some (.ref (gh G + a0)), some (.int p1), none, none]) (t := Option.bind (b_X7_test g_X7_both M a0 p1) (fun q => some (q.1, some (.int q.2)))) (by decide) rfl rfl (nle rfl) (Lof_in 2 _ rfl) (fun X hG hl => ?_) (by rw [h]; rfl)
  subst hG
  subst hl
  unfold b_X7_test
  refine s_aload_n (pc := 0) 0 dX7_test_0 rfl rfl ?_
  refine s_iload_n (pc := 1) 1 dX7_test_1 rfl rfl ?_
  refine s_grd (fun o1 => ?_)
  refine s_bind (fun q2 hq3 => ?_)
  have hC4 := hg_X7_both X rfl rfl M a0 p1 q2 hq3
  refine s_callV (pc := 2) (As := [.int p1]) (st := []) (nlt rfl) (q := (RX7, TX7, 10)) rfl rfl o1 cl_X7_both wi_X7_both wl_X7_both km_X7_140 rfl rfl (Nat.le_refl _) (nle rfl) (nle rfl) dX7_test_2 hC4 ?_
  have h5 := hC4.1 X
  have o6 := h5.ok o1
  show S0 X _ q2.1 5 [some (.ref (gh (xG X) + a0)), some (.int p1), none, none] [.int q2.2] _
  refine s_ifne (pc := 5) 10 dX7_test_5 rfl ?_ ?_
  · refine s_iconst (pc := 10) 0 dX7_test_10 kc_0 ?_
    refine s_istore_n (pc := 11) 2 dX7_test_11 rfl (nlt rfl) rfl (L' := [some (.ref (gh (xG X) + a0)), some (.int p1), some (.int 0), none]) rfl ?_
    refine s_drop (L' := [some (.ref (gh (xG X) + a0)), some (.int p1), some (.int 0), none]) ?_ (And.intro rfl (And.intro rfl (And.intro rfl trivial)))
    refine s_loop2 q2.1 (fun s7 : Mem × Int32 => s7.1) (fun s7 : Mem × Int32 => [some (.ref (gh (xG X) + a0)), some (.int p1), some (.int s7.2), none]) (fun x16 : Mem => x16) 68 (fun x16 : Mem => [none, none, none, none]) (fun x18 : Mem => x18) 52 (fun x18 : Mem => [none, none, none, none]) (fun x16 hx17 => ?_) (fun x18 hx19 => ?_) (fun T9 R11 R13 hT10 hR12 hR14 s7 hs8 => ?_) (q2.1, 0) Le.rf
    · show S0 X _ x16 68 [none, none, none, none] [] _
      refine s_iconst (pc := 68) 1 dX7_test_68 kc_1 ?_
      exact s_zret rfl rfl dX7_test_69
    · show S0 X _ x18 52 [none, none, none, none] [] _
      refine s_iconst (pc := 52) 0 dX7_test_52 kc_0 ?_
      exact s_zret rfl rfl dX7_test_53
    · show S0 X _ s7.1 12 [some (.ref (gh (xG X) + a0)), some (.int p1), some (.int s7.2), none] [] _
      have o15 := hs8.ok o6
      refine s_iload_n (pc := 12) 2 dX7_test_12 rfl rfl ?_
      refine s_sipush (pc := 13) 400 dX7_test_13 ks_400 ?_
      refine s_icge (pc := 16) 68 dX7_test_16 rfl ?_ ?_
      · exact s_drop (hR12 s7.1 hs8) trivial
      · refine s_aload_n (pc := 19) 0 dX7_test_19 rfl rfl ?_
        refine s_geti (pc := 20) F_7 8 rfl o15 dX7_test_20 kf_X7_66 ?_
        refine s_sipush (pc := 23) 263 dX7_test_23 ks_263 ?_
        refine s_icne (pc := 26) 68 dX7_test_26 rfl ?_ ?_
        · exact s_drop (hR12 s7.1 hs8) trivial
        · refine s_aload_n (pc := 29) 0 dX7_test_29 rfl rfl ?_
          refine s_geto (pc := 30) F_7 3 rfl o15 dX7_test_30 kf_X7_26 ?_
          refine s_rvB (fun r20 => ?_)
          refine s_bipush (pc := 33) 12 dX7_test_33 kb_12 ?_
          refine s_iconst (pc := 35) 0 dX7_test_35 kc_0 ?_
          refine s_grd (fun o21 => ?_)
          refine s_bind (fun q22 hq23 => ?_)
          have hC24 := t_X9_emit (l := xl X) (G := xG X) hq23
          refine s_callV (pc := 36) (As := [.int 12, .int 0]) (st := []) (nlt rfl) (q := (RX9, TX9, 5)) rfl rfl o21 cl_X9_emit wi_X9_emit wl_X9_emit km_X7_134 rfl rfl (Nat.le_trans (nle rfl : _ ≤ 104) (Nat.le_add_right 104 _)) (nle rfl) (nle rfl) dX7_test_36 hC24 ?_
          have h25 := hC24.1 X
          have o26 := h25.ok o15
          show S0 X _ q22.1 39 [some (.ref (gh (xG X) + a0)), some (.int p1), some (.int s7.2), none] [.int q22.2] _
          refine s_istore_n (pc := 39) 3 dX7_test_39 rfl (nlt rfl) rfl (L' := [some (.ref (gh (xG X) + a0)), some (.int p1), some (.int s7.2), some (.int q22.2)]) rfl ?_
          refine s_aload_n (pc := 40) 0 dX7_test_40 rfl rfl ?_
          refine s_bind (fun q27 hq28 => ?_)
          have hC29 := t_X7_next (l := xl X) (G := xG X) hq28
          refine s_callV (pc := 41) (As := []) (st := []) (nlt rfl) (q := (RX7, TX7, 10)) rfl rfl o26 cl_X7_next wi_X7_next wl_X7_next km_X7_79 rfl rfl (Nat.le_trans (nle rfl : _ ≤ 104) (Nat.le_add_right 104 _)) (nle rfl) (nle rfl) dX7_test_41 hC29 ?_
          have h30 := hC29.1 X
          have o31 := h30.ok o26
          show S0 X _ q27 44 [some (.ref (gh (xG X) + a0)), some (.int p1), some (.int s7.2), some (.int q22.2)] [] _
          refine s_aload_n (pc := 44) 0 dX7_test_44 rfl rfl ?_
          refine s_iload_n (pc := 45) 1 dX7_test_45 rfl rfl ?_
          refine s_bind (fun q32 hq33 => ?_)
          have hC34 := hg_X7_both X rfl rfl q27 a0 p1 q32 hq33
          refine s_callV (pc := 46) (As := [.int p1]) (st := []) (nlt rfl) (q := (RX7, TX7, 10)) rfl rfl o31 cl_X7_both wi_X7_both wl_X7_both km_X7_140 rfl rfl (Nat.le_refl _) (nle rfl) (nle rfl) dX7_test_46 hC34 ?_
          have h35 := hC34.1 X
          have o36 := h35.ok o31
          show S0 X _ q32.1 49 [some (.ref (gh (xG X) + a0)), some (.int p1), some (.int s7.2), some (.int q22.2)] [.int q32.2] _
          refine s_ifne (pc := 49) 54 dX7_test_49 rfl ?_ ?_
          · refine s_aload_n (pc := 54) 0 dX7_test_54 rfl rfl ?_
            refine s_geto (pc := 55) F_7 3 rfl o36 dX7_test_55 kf_X7_26 ?_
            refine s_rvB (fun r37 => ?_)
            refine s_iload_n (pc := 58) 3 dX7_test_58 rfl rfl ?_
            refine s_grd (fun o38 => ?_)
            refine s_bind (fun q39 hq40 => ?_)
            have hC41 := t_X9_aim (l := xl X) (G := xG X) hq40
            refine s_callV (pc := 59) (As := [.int q22.2]) (st := []) (nlt rfl) (q := (RX9, TX9, 5)) rfl rfl o38 cl_X9_aim wi_X9_aim wl_X9_aim km_X7_143 rfl rfl (Nat.le_trans (nle rfl : _ ≤ 104) (Nat.le_add_right 104 _)) (nle rfl) (nle rfl) dX7_test_59 hC41 ?_
            have h42 := hC41.1 X
            have o43 := h42.ok o36
            show S0 X _ q39 62 [some (.ref (gh (xG X) + a0)), some (.int p1), some (.int s7.2), some (.int q22.2)] [] _
            refine s_iinc (pc := 62) dX7_test_62 rfl (v := s7.2 + 1) (congrArg (fun z : Int32 => s7.2 + z) kc_1) (nlt rfl) rfl (L' := [some (.ref (gh (xG X) + a0)), some (.int p1), some (.int (s7.2 + 1)), some (.int q22.2)]) rfl ?_
            refine s_bv (fun x44 : Int32 => [some (.ref (gh (xG X) + a0)), some (.int p1), some (.int x44), some (.int q22.2)]) (fun x44 => ?_) rfl
            refine s_goto (pc := 65) 12 dX7_test_65 rfl ?_
            exact s_drop (hT10 (q39, x44) (hs8.tr (h25.tr (h30.tr (h35.tr h42))))) (And.intro rfl (And.intro rfl (And.intro rfl trivial)))
          · exact s_drop (hR14 q32.1 (hs8.tr (h25.tr (h30.tr h35)))) trivial
  · refine s_iconst (pc := 8) 0 dX7_test_8 kc_0 ?_
    exact s_zret rfl rfl dX7_test_9
noncomputable def G_X7_both : Nat → (Mem → Nat → Int32 → Option (Mem × Int32)) × (Mem → Nat → Int32 → Option (Mem × Int32)) × (Mem → Nat → Int32 → Option (Mem × Int32)) × (Mem → Nat → Int32 → Option (Mem × Int32))
  | 0 => ((fun _ _ _ => none), (fun _ _ _ => none), (fun _ _ _ => none), (fun _ _ _ => none))
  | d + 1 => (b_X7_both ((G_X7_both d).2.2.1), b_X7_inRound ((G_X7_both d).2.2.2), b_X7_plain ((G_X7_both d).2.1), b_X7_test ((G_X7_both d).1))
noncomputable def f_X7_both (d : Nat) : Mem → Nat → Int32 → Option (Mem × Int32) := (G_X7_both d).1
noncomputable def f_X7_inRound (d : Nat) : Mem → Nat → Int32 → Option (Mem × Int32) := (G_X7_both d).2.1
noncomputable def f_X7_plain (d : Nat) : Mem → Nat → Int32 → Option (Mem × Int32) := (G_X7_both d).2.2.1
noncomputable def f_X7_test (d : Nat) : Mem → Nat → Int32 → Option (Mem × Int32) := (G_X7_both d).2.2.2
set_option maxRecDepth 100000 in
theorem tg_X7_both {l : Launch} {G : Gh} : ∀ d : Nat, (∀ (M : Mem) (a0 : Nat) (p1 : Int32) (q : Mem × Int32), f_X7_both d M a0 p1 = some q → Ctr l G yX7_both (Y_X7_both d) M [.ref (gh G + a0), .int p1] q.1 (some (.int q.2))) ∧ (∀ (M : Mem) (a0 : Nat) (p1 : Int32) (q : Mem × Int32), f_X7_inRound d M a0 p1 = some q → Ctr l G yX7_inRound (Y_X7_inRound d) M [.ref (gh G + a0), .int p1] q.1 (some (.int q.2))) ∧ (∀ (M : Mem) (a0 : Nat) (p1 : Int32) (q : Mem × Int32), f_X7_plain d M a0 p1 = some q → Ctr l G yX7_plain (Y_X7_plain d) M [.ref (gh G + a0), .int p1] q.1 (some (.int q.2))) ∧ (∀ (M : Mem) (a0 : Nat) (p1 : Int32) (q : Mem × Int32), f_X7_test d M a0 p1 = some q → Ctr l G yX7_test (Y_X7_test d) M [.ref (gh G + a0), .int p1] q.1 (some (.int q.2))) := by
  intro d
  induction d with
  | zero => refine ⟨?_, ?_, ?_, ?_⟩ <;> (intros; rename_i h; cases h)
  | succ d ih =>
    obtain ⟨h0, h1, h2, h3⟩ := ih
    refine ⟨?_, ?_, ?_, ?_⟩
    · intro M a0 p1 q h
      exact t_X7_both (fun X hG hl => by subst hG; subst hl; exact h2) h
    · intro M a0 p1 q h
      exact t_X7_inRound (fun X hG hl => by subst hG; subst hl; exact h3) h
    · intro M a0 p1 q h
      exact t_X7_plain (fun X hG hl => by subst hG; subst hl; exact h1) h
    · intro M a0 p1 q h
      exact t_X7_test (fun X hG hl => by subst hG; subst hl; exact h0) h
set_option maxRecDepth 100000 in
theorem tf_X7_both {l : Launch} {G : Gh} {M : Mem} {a0 : Nat} {p1 : Int32} {q : Mem × Int32} (h : f_X7_both 100 M a0 p1 = some q) : Ctr l G yX7_both (Y_X7_both 100) M [.ref (gh G + a0), .int p1] q.1 (some (.int q.2)) := (tg_X7_both 100).1 _ _ _ _ h
set_option maxRecDepth 100000 in
theorem tf_X7_inRound {l : Launch} {G : Gh} {M : Mem} {a0 : Nat} {p1 : Int32} {q : Mem × Int32} (h : f_X7_inRound 100 M a0 p1 = some q) : Ctr l G yX7_inRound (Y_X7_inRound 100) M [.ref (gh G + a0), .int p1] q.1 (some (.int q.2)) := (tg_X7_both 100).2.1 _ _ _ _ h
set_option maxRecDepth 100000 in
theorem tf_X7_plain {l : Launch} {G : Gh} {M : Mem} {a0 : Nat} {p1 : Int32} {q : Mem × Int32} (h : f_X7_plain 100 M a0 p1 = some q) : Ctr l G yX7_plain (Y_X7_plain 100) M [.ref (gh G + a0), .int p1] q.1 (some (.int q.2)) := (tg_X7_both 100).2.2.1 _ _ _ _ h
set_option maxRecDepth 100000 in
theorem tf_X7_test {l : Launch} {G : Gh} {M : Mem} {a0 : Nat} {p1 : Int32} {q : Mem × Int32} (h : f_X7_test 100 M a0 p1 = some q) : Ctr l G yX7_test (Y_X7_test 100) M [.ref (gh G + a0), .int p1] q.1 (some (.int q.2)) := (tg_X7_both 100).2.2.2 _ _ _ _ h
