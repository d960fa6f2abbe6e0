set_option maxRecDepth 100000 in
set_option maxHeartbeats 8000000 in
noncomputable def b_X12_positiveOf (g_X12_testOf : Mem → Nat → Int32 → Option (Mem × Int32)) (M : Mem) (a0 : Nat) (p1 : Int32) : Option (Mem × Int32) :=
  Option.bind (f_X12_sign 40) (fun q1 => grd (okO M 12 a0) (Option.bind (f_X12_passes0 M a0 q1) (fun q5 => if q5.2 = 0 then (Option.bind (f_X12_sumOf 100 q5.1 a0 p1) (fun q10 => Option.bind (f_X12_codeAt q10.1 a0 (mI q10.1 a0 26)) (fun q15 => bv (wI q10.1 a0 26 ((mI q10.1 a0 26) + 1)) (fun M18 => Option.bind (f_X12_sumOf 100 M18 a0 p1) (fun q22 => if p1 = 0 then (some (q22.1, 0)) else (if (mI q22.1 a0 28) = 0 then (Option.bind (f_X12_sign 60) (fun q27 => if q15 = q27 then (if 0 ≤ (lg_cmp q10.2 q22.2) then (some (q22.1, 0)) else (some (q22.1, 1))) else (Option.bind (f_X12_sign 62) (fun q30 => if q15 = q30 then (if (lg_cmp q10.2 q22.2) ≤ 0 then (some (q22.1, 0)) else (some (q22.1, 1))) else (if (lg_cmp q10.2 q22.2) = 0 then (some (q22.1, 1)) else (some (q22.1, 0))))))) else (some (q22.1, 0)))))))) else (Option.bind (g_X12_testOf q5.1 a0 p1) (fun q33 => bv (wI q33.1 a0 26 ((mI q33.1 a0 26) + 1)) (fun M38 => grd (bl q33.2) (some (M38, q33.2))))))))
set_option maxRecDepth 100000 in
set_option maxHeartbeats 8000000 in
theorem t_X12_positiveOf {d : Nat} {g_X12_testOf : Mem → Nat → Int32 → Option (Mem × Int32)} {l : Launch} {G : Gh} {M : Mem} {a0 : Nat} {p1 : Int32} {q : Mem × Int32} (hg_X12_testOf : ∀ X : Ctx, xG X = G → xl X = l → ∀ (M : Mem) (a0 : Nat) (p1 : Int32) (q : Mem × Int32), g_X12_testOf M a0 p1 = some q → Ctr (xl X) (xG X) yX12_testOf (Y_X12_testOf d) M [.ref (gh (xG X) + a0), .int p1] q.1 (some (.int q.2))) (h : b_X12_positiveOf g_X12_testOf M a0 p1 = some q) : Ctr l G yX12_positiveOf (Y_X12_positiveOf (d + 1)) M [.ref (gh G + a0), .int p1] q.1 (some (.int q.2)) := by
  refine Ctr.of (Y := (Y_X12_positiveOf (d + 1))) (L := [some (.ref (gh G + a0)), some (.int p1), none, none, none, none, none]) (t := Option.bind (b_X12_positiveOf g_X12_testOf M a0 p1) (fun q => some (q.1, some (.int q.2)))) (by decide) rfl rfl (nle rfl) (Lof_in 5 _ rfl) (fun X hG hl => ?_) (by rw [h]; rfl)
  subst hG
  subst hl
  unfold b_X12_positiveOf
  refine s_aload_n (pc := 0) 0 dX12_positiveOf_0 rfl rfl ?_
  refine s_bipush (pc := 1) 40 dX12_positiveOf_1 kb_40 ?_
  refine s_bind (fun q1 hq2 => ?_)
  have hC3 := t_X12_sign (l := xl X) (G := xG X) (M := M) hq2
  refine s_callS (pc := 3) (As := [.int 40]) (st := [.ref (gh (xG X) + a0)]) cl_X12_sign wt_X12_sign km_X12_278 rfl rfl (Nat.le_trans (nle rfl : _ ≤ 104) (Nat.le_add_right 104 _)) (nle rfl) (nle rfl) dX12_positiveOf_3 hC3 ?_
  show S0 X _ M 6 [some (.ref (gh (xG X) + a0)), some (.int p1), none, none, none, none, none] [.int q1, .ref (gh (xG X) + a0)] _
  refine s_grd (fun o4 => ?_)
  refine s_bind (fun q5 hq6 => ?_)
  have hC7 := t_X12_passes0 (l := xl X) (G := xG X) hq6
  refine s_callV (pc := 6) (As := [.int q1]) (st := []) (nlt rfl) (q := (RX12, TX12, 59)) rfl rfl o4 cl_X12_passes0 wi_X12_passes0 wl_X12_passes0 km_X12_333 rfl rfl (Nat.le_trans (nle rfl : _ ≤ 104) (Nat.le_add_right 104 _)) (nle rfl) (nle rfl) dX12_positiveOf_6 hC7 ?_
  have h8 := hC7.1 X
  have o9 := h8.ok o4
  show S0 X _ q5.1 9 [some (.ref (gh (xG X) + a0)), some (.int p1), none, none, none, none, none] [.int q5.2] _
  refine s_ifeq (pc := 9) 30 dX12_positiveOf_9 rfl ?_ ?_
  · refine s_aload_n (pc := 30) 0 dX12_positiveOf_30 rfl rfl ?_
    refine s_iload_n (pc := 31) 1 dX12_positiveOf_31 rfl rfl ?_
    refine s_bind (fun q10 hq11 => ?_)
    have hC12 := tf_X12_sumOf (l := xl X) (G := xG X) hq11
    refine s_callV (pc := 32) (As := [.int p1]) (st := []) (nlt rfl) (q := (RX12, TX12, 59)) rfl rfl o9 cl_X12_sumOf wi_X12_sumOf wl_X12_sumOf km_X12_336 rfl rfl (Nat.le_trans (nle rfl : _ ≤ 104) (Nat.le_add_right 104 _)) (nle rfl) (nle rfl) dX12_positiveOf_32 hC12 ?_
    have h13 := hC12.1 X
    have o14 := h13.ok o9
    show S0 X _ q10.1 35 [some (.ref (gh (xG X) + a0)), some (.int p1), none, none, none, none, none] [.long q10.2] _
    refine s_lstore_n (pc := 35) 2 dX12_positiveOf_35 rfl (nlt rfl) rfl (L' := [some (.ref (gh (xG X) + a0)), some (.int p1), some (.long q10.2), none, none, none, none]) rfl ?_
    refine s_aload_n (pc := 36) 0 dX12_positiveOf_36 rfl rfl ?_
    refine s_aload_n (pc := 37) 0 dX12_positiveOf_37 rfl rfl ?_
    refine s_geti (pc := 38) F_12 26 rfl o14 dX12_positiveOf_38 kf_X12_309 ?_
    refine s_bind (fun q15 hq16 => ?_)
    have hC17 := t_X12_codeAt (l := xl X) (G := xG X) hq16
    refine s_callV (pc := 41) (As := [.int (mI q10.1 a0 26)]) (st := []) (nlt rfl) (q := (RX12, TX12, 59)) rfl rfl o14 cl_X12_codeAt wi_X12_codeAt wl_X12_codeAt km_X12_312 rfl rfl (Nat.le_trans (nle rfl : _ ≤ 104) (Nat.le_add_right 104 _)) (nle rfl) (nle rfl) dX12_positiveOf_41 hC17 ?_
    show S0 X _ q10.1 44 [some (.ref (gh (xG X) + a0)), some (.int p1), some (.long q10.2), none, none, none, none] [.int q15] _
    refine s_istore (pc := 44) dX12_positiveOf_44 (nlt rfl) rfl (L' := [some (.ref (gh (xG X) + a0)), some (.int p1), some (.long q10.2), none, some (.int q15), none, none]) rfl ?_
    refine s_aload_n (pc := 46) 0 dX12_positiveOf_46 rfl rfl ?_
    refine s_dup (pc := 47) dX12_positiveOf_47 rfl ?_
    refine s_geti (pc := 48) F_12 26 rfl o14 dX12_positiveOf_48 kf_X12_309 ?_
    refine s_iconst (pc := 51) 1 dX12_positiveOf_51 kc_1 ?_
    refine s_iadd (pc := 52) dX12_positiveOf_52 ?_
    refine s_puti (pc := 53) F_12 26 rfl o14 rfl rfl rfl dX12_positiveOf_53 kf_X12_309 (fun M18 hM19 => ?_)
    have h20 := le_wI hM19
    have o21 := h20.ok o14
    refine s_aload_n (pc := 56) 0 dX12_positiveOf_56 rfl rfl ?_
    refine s_iload_n (pc := 57) 1 dX12_positiveOf_57 rfl rfl ?_
    refine s_bind (fun q22 hq23 => ?_)
    have hC24 := tf_X12_sumOf (l := xl X) (G := xG X) hq23
    refine s_callV (pc := 58) (As := [.int p1]) (st := []) (nlt rfl) (q := (RX12, TX12, 59)) rfl rfl o21 cl_X12_sumOf wi_X12_sumOf wl_X12_sumOf km_X12_336 rfl rfl (Nat.le_trans (nle rfl : _ ≤ 104) (Nat.le_add_right 104 _)) (nle rfl) (nle rfl) dX12_positiveOf_58 hC24 ?_
    have h25 := hC24.1 X
    have o26 := h25.ok o21
    show S0 X _ q22.1 61 [some (.ref (gh (xG X) + a0)), some (.int p1), some (.long q10.2), none, some (.int q15), none, none] [.long q22.2] _
    refine s_lstore (pc := 61) dX12_positiveOf_61 (nlt rfl) rfl (L' := [some (.ref (gh (xG X) + a0)), some (.int p1), some (.long q10.2), none, some (.int q15), some (.long q22.2), none]) rfl ?_
    refine s_iload_n (pc := 63) 1 dX12_positiveOf_63 rfl rfl ?_
    refine s_ifeq (pc := 64) 125 dX12_positiveOf_64 rfl ?_ ?_
    · refine s_iconst (pc := 125) 0 dX12_positiveOf_125 kc_0 ?_
      exact s_zret rfl rfl dX12_positiveOf_126
    · refine s_aload_n (pc := 67) 0 dX12_positiveOf_67 rfl rfl ?_
      refine s_geti (pc := 68) F_12 28 rfl o26 dX12_positiveOf_68 kf_X12_319 ?_
      refine s_ifne (pc := 71) 125 dX12_positiveOf_71 rfl ?_ ?_
      · refine s_iconst (pc := 125) 0 dX12_positiveOf_125 kc_0 ?_
        exact s_zret rfl rfl dX12_positiveOf_126
      · refine s_iload (pc := 74) dX12_positiveOf_74 rfl ?_
        refine s_bipush (pc := 76) 60 dX12_positiveOf_76 kb_60 ?_
        refine s_bind (fun q27 hq28 => ?_)
        have hC29 := t_X12_sign (l := xl X) (G := xG X) (M := q22.1) hq28
        refine s_callS (pc := 78) (As := [.int 60]) (st := [.int q15]) cl_X12_sign wt_X12_sign km_X12_278 rfl rfl (Nat.le_trans (nle rfl : _ ≤ 104) (Nat.le_add_right 104 _)) (nle rfl) (nle rfl) dX12_positiveOf_78 hC29 ?_
        show S0 X _ q22.1 81 [some (.ref (gh (xG X) + a0)), some (.int p1), some (.long q10.2), none, some (.int q15), some (.long q22.2), none] [.int q27, .int q15] _
        refine s_icne (pc := 81) 94 dX12_positiveOf_81 rfl ?_ ?_
        · refine s_iload (pc := 94) dX12_positiveOf_94 rfl ?_
          refine s_bipush (pc := 96) 62 dX12_positiveOf_96 kb_62 ?_
          refine s_bind (fun q30 hq31 => ?_)
          have hC32 := t_X12_sign (l := xl X) (G := xG X) (M := q22.1) hq31
          refine s_callS (pc := 98) (As := [.int 62]) (st := [.int q15]) cl_X12_sign wt_X12_sign km_X12_278 rfl rfl (Nat.le_trans (nle rfl : _ ≤ 104) (Nat.le_add_right 104 _)) (nle rfl) (nle rfl) dX12_positiveOf_98 hC32 ?_
          show S0 X _ q22.1 101 [some (.ref (gh (xG X) + a0)), some (.int p1), some (.long q10.2), none, some (.int q15), some (.long q22.2), none] [.int q30, .int q15] _
          refine s_icne (pc := 101) 114 dX12_positiveOf_101 rfl ?_ ?_
          · refine s_lload_n (pc := 114) 2 dX12_positiveOf_114 rfl rfl ?_
            refine s_lload (pc := 115) dX12_positiveOf_115 rfl ?_
            refine s_lcmp (pc := 117) dX12_positiveOf_117 ?_
            refine s_ifne (pc := 118) 125 dX12_positiveOf_118 rfl ?_ ?_
            · refine s_iconst (pc := 125) 0 dX12_positiveOf_125 kc_0 ?_
              exact s_zret rfl rfl dX12_positiveOf_126
            · refine s_iconst (pc := 121) 1 dX12_positiveOf_121 kc_1 ?_
              refine s_goto (pc := 122) 126 dX12_positiveOf_122 rfl ?_
              exact s_zret rfl rfl dX12_positiveOf_126
          · refine s_lload_n (pc := 104) 2 dX12_positiveOf_104 rfl rfl ?_
            refine s_lload (pc := 105) dX12_positiveOf_105 rfl ?_
            refine s_lcmp (pc := 107) dX12_positiveOf_107 ?_
            refine s_ifle (pc := 108) 125 dX12_positiveOf_108 rfl ?_ ?_
            · refine s_iconst (pc := 125) 0 dX12_positiveOf_125 kc_0 ?_
              exact s_zret rfl rfl dX12_positiveOf_126
            · refine s_goto (pc := 111) 121 dX12_positiveOf_111 rfl ?_
              refine s_iconst (pc := 121) 1 dX12_positiveOf_121 kc_1 ?_
              refine s_goto (pc := 122) 126 dX12_positiveOf_122 rfl ?_
              exact s_zret rfl rfl dX12_positiveOf_126
        · refine s_lload_n (pc := 84) 2 dX12_positiveOf_84 rfl rfl ?_
          refine s_lload (pc := 85) dX12_positiveOf_85 rfl ?_
          refine s_lcmp (pc := 87) dX12_positiveOf_87 ?_
          refine s_ifge (pc := 88) 125 dX12_positiveOf_88 rfl ?_ ?_
          · refine s_iconst (pc := 125) 0 dX12_positiveOf_125 kc_0 ?_
            exact s_zret rfl rfl dX12_positiveOf_126
          · refine s_goto (pc := 91) 121 dX12_positiveOf_91 rfl ?_
            refine s_iconst (pc := 121) 1 dX12_positiveOf_121 kc_1 ?_
            refine s_goto (pc := 122) 126 dX12_positiveOf_122 rfl ?_
            exact s_zret rfl rfl dX12_positiveOf_126
  · refine s_aload_n (pc := 12) 0 dX12_positiveOf_12 rfl rfl ?_
    refine s_iload_n (pc := 13) 1 dX12_positiveOf_13 rfl rfl ?_
    refine s_bind (fun q33 hq34 => ?_)
    have hC35 := hg_X12_testOf X rfl rfl q5.1 a0 p1 q33 hq34
    refine s_callV (pc := 14) (As := [.int p1]) (st := []) (nlt rfl) (q := (RX12, TX12, 59)) rfl rfl o9 cl_X12_testOf wi_X12_testOf wl_X12_testOf km_X12_354 rfl rfl (Nat.le_refl _) (nle rfl) (nle rfl) dX12_positiveOf_14 hC35 ?_
    have h36 := hC35.1 X
    have o37 := h36.ok o9
    show S0 X _ q33.1 17 [some (.ref (gh (xG X) + a0)), some (.int p1), none, none, none, none, none] [.int q33.2] _
    refine s_istore_n (pc := 17) 2 dX12_positiveOf_17 rfl (nlt rfl) rfl (L' := [some (.ref (gh (xG X) + a0)), some (.int p1), some (.int q33.2), none, none, none, none]) rfl ?_
    refine s_aload_n (pc := 18) 0 dX12_positiveOf_18 rfl rfl ?_
    refine s_dup (pc := 19) dX12_positiveOf_19 rfl ?_
    refine s_geti (pc := 20) F_12 26 rfl o37 dX12_positiveOf_20 kf_X12_309 ?_
    refine s_iconst (pc := 23) 1 dX12_positiveOf_23 kc_1 ?_
    refine s_iadd (pc := 24) dX12_positiveOf_24 ?_
    refine s_puti (pc := 25) F_12 26 rfl o37 rfl rfl rfl dX12_positiveOf_25 kf_X12_309 (fun M38 hM39 => ?_)
    have h40 := le_wI hM39
    have o41 := h40.ok o37
    refine s_iload_n (pc := 28) 2 dX12_positiveOf_28 rfl rfl ?_
    refine s_grd (fun g42 => ?_)
    exact s_zret rfl g42 dX12_positiveOf_29
set_option maxRecDepth 100000 in
set_option maxHeartbeats 8000000 in
noncomputable def b_X12_testOf (g_X12_bothOf : Mem → Nat → Int32 → Option (Mem × Int32)) (M : Mem) (a0 : Nat) (p1 : Int32) : Option (Mem × Int32) :=
  grd (okO M 12 a0) (Option.bind (g_X12_bothOf M a0 p1) (fun q2 => Option.bind (loopO (σ := Mem × Int32) (ρ := Mem × Int32) (fun s7 => Option.bind (f_X12_passes0 s7.1 a0 4) (fun q16 => if q16.2 = 0 then (some (.inr (q16.1, s7.2))) else (bv (fun (s22 : Int32) => Option.bind (g_X12_bothOf q16.1 a0 s22) (fun q25 => bv (fun (s31 : Int32) => some (.inl (q25.1, s31))) (fun j30 => bv (fun (s35 : Unit) => j30 1) (fun j34 => if s7.2 = 0 then (if q25.2 = 0 then (j30 0) else (j34 ())) else (j34 ()))))) (fun j21 => bv (fun (s39 : Unit) => j21 0) (fun j38 => if p1 = 0 then (j38 ()) else (if s7.2 = 0 then (j21 1) else (j38 ()))))))) (q2.1, q2.2)) (fun (x14 : Mem × Int32) => grd (bl x14.2) (some (x14.1, x14.2)))))
set_option maxRecDepth 100000 in
set_option maxHeartbeats 8000000 in
theorem t_X12_testOf {d : Nat} {g_X12_bothOf : Mem → Nat → Int32 → Option (Mem × Int32)} {l : Launch} {G : Gh} {M : Mem} {a0 : Nat} {p1 : Int32} {q : Mem × Int32} (hg_X12_bothOf : ∀ X : Ctx, xG X = G → xl X = l → ∀ (M : Mem) (a0 : Nat) (p1 : Int32) (q : Mem × Int32), g_X12_bothOf M a0 p1 = some q → Ctr (xl X) (xG X) yX12_bothOf (Y_X12_bothOf d) M [.ref (gh (xG X) + a0), .int p1] q.1 (some (.int q.2))) (h : b_X12_testOf g_X12_bothOf M a0 p1 = some q) : Ctr l G yX12_testOf (Y_X12_testOf (d + 1)) M [.ref (gh G + a0), .int p1] q.1 (some (.int q.2)) := by
  refine Ctr.of (Y := (Y_X12_testOf (d + 1))) (L := [some (.ref (gh G + a0)), some (.int p1), none, none]) (t := Option.bind (b_X12_testOf g_X12_bothOf M a0 p1) (fun q => some (q.1, some (.int q.2)))) (by decide) rfl rfl (nle rfl) (Lof_in 2 _ rfl) (fun X hG hl => ?_) (by rw [h]; rfl)
  subst hG
  subst hl
  unfold b_X12_testOf
  refine s_aload_n (pc := 0) 0 dX12_testOf_0 rfl rfl ?_
  refine s_iload_n (pc := 1) 1 dX12_testOf_1 rfl rfl ?_
  refine s_grd (fun o1 => ?_)
  refine s_bind (fun q2 hq3 => ?_)
  have hC4 := hg_X12_bothOf X rfl rfl M a0 p1 q2 hq3
  refine s_callV (pc := 2) (As := [.int p1]) (st := []) (nlt rfl) (q := (RX12, TX12, 59)) rfl rfl o1 cl_X12_bothOf wi_X12_bothOf wl_X12_bothOf km_X12_344 rfl rfl (Nat.le_refl _) (nle rfl) (nle rfl) dX12_testOf_2 hC4 ?_
  have h5 := hC4.1 X
  have o6 := h5.ok o1
  show S0 X _ q2.1 5 [some (.ref (gh (xG X) + a0)), some (.int p1), none, none] [.int q2.2] _
  refine s_istore_n (pc := 5) 2 dX12_testOf_5 rfl (nlt rfl) rfl (L' := [some (.ref (gh (xG X) + a0)), some (.int p1), some (.int q2.2), none]) rfl ?_
  refine s_drop (L' := [some (.ref (gh (xG X) + a0)), some (.int p1), some (.int q2.2), none]) ?_ (And.intro rfl (And.intro rfl (And.intro rfl trivial)))
  refine s_loop1 q2.1 (fun s7 : Mem × Int32 => s7.1) (fun s7 : Mem × Int32 => [some (.ref (gh (xG X) + a0)), some (.int p1), some (.int s7.2), none]) (fun x14 : Mem × Int32 => x14.1) 49 (fun x14 : Mem × Int32 => [none, none, some (.int x14.2), none]) (fun x14 hx15 => ?_) (fun T9 R11 hT10 hR12 s7 hs8 => ?_) (q2.1, q2.2) Le.rf
  · show S0 X _ x14.1 49 [none, none, some (.int x14.2), none] [] _
    refine s_iload_n (pc := 49) 2 dX12_testOf_49 rfl rfl ?_
    refine s_grd (fun g42 => ?_)
    exact s_zret rfl g42 dX12_testOf_50
  · show S0 X _ s7.1 6 [some (.ref (gh (xG X) + a0)), some (.int p1), some (.int s7.2), none] [] _
    have o13 := hs8.ok o6
    refine s_aload_n (pc := 6) 0 dX12_testOf_6 rfl rfl ?_
    refine s_iconst (pc := 7) 4 dX12_testOf_7 kc_4 ?_
    refine s_bind (fun q16 hq17 => ?_)
    have hC18 := t_X12_passes0 (l := xl X) (G := xG X) hq17
    refine s_callV (pc := 8) (As := [.int 4]) (st := []) (nlt rfl) (q := (RX12, TX12, 59)) rfl rfl o13 cl_X12_passes0 wi_X12_passes0 wl_X12_passes0 km_X12_333 rfl rfl (Nat.le_trans (nle rfl : _ ≤ 104) (Nat.le_add_right 104 _)) (nle rfl) (nle rfl) dX12_testOf_8 hC18 ?_
    have h19 := hC18.1 X
    have o20 := h19.ok o13
    show S0 X _ q16.1 11 [some (.ref (gh (xG X) + a0)), some (.int p1), some (.int s7.2), none] [.int q16.2] _
    refine s_ifeq (pc := 11) 49 dX12_testOf_11 rfl ?_ ?_
    · exact s_drop (hR12 (q16.1, s7.2) (hs8.tr h19)) (And.intro rfl trivial)
    · refine s_aload_n (pc := 14) 0 dX12_testOf_14 rfl rfl ?_
      refine s_iload_n (pc := 15) 1 dX12_testOf_15 rfl rfl ?_
      refine s_join q16.1 (fun s22 : Int32 => q16.1) 28 (fun s22 : Int32 => [some (.ref (gh (xG X) + a0)), some (.int p1), some (.int s7.2), none]) (fun s22 : Int32 => [.int s22, .ref (gh (xG X) + a0)]) (fun s22 hs23 => ?_) (fun j21 hj24 => ?_)
      · show S0 X _ q16.1 28 [some (.ref (gh (xG X) + a0)), some (.int p1), some (.int s7.2), none] [.int s22, .ref (gh (xG X) + a0)] _
        refine s_bind (fun q25 hq26 => ?_)
        have hC27 := hg_X12_bothOf X rfl rfl q16.1 a0 s22 q25 hq26
        refine s_callV (pc := 28) (As := [.int s22]) (st := []) (nlt rfl) (q := (RX12, TX12, 59)) rfl rfl o20 cl_X12_bothOf wi_X12_bothOf wl_X12_bothOf km_X12_344 rfl rfl (Nat.le_refl _) (nle rfl) (nle rfl) dX12_testOf_28 hC27 ?_
        have h28 := hC27.1 X
        have o29 := h28.ok o20
        show S0 X _ q25.1 31 [some (.ref (gh (xG X) + a0)), some (.int p1), some (.int s7.2), none] [.int q25.2] _
        refine s_istore_n (pc := 31) 3 dX12_testOf_31 rfl (nlt rfl) rfl (L' := [some (.ref (gh (xG X) + a0)), some (.int p1), some (.int s7.2), some (.int q25.2)]) rfl ?_
        refine s_iload_n (pc := 32) 2 dX12_testOf_32 rfl rfl ?_
        refine s_join q25.1 (fun s31 : Int32 => q25.1) 45 (fun s31 : Int32 => [some (.ref (gh (xG X) + a0)), some (.int p1), none, none]) (fun s31 : Int32 => [.int s31]) (fun s31 hs32 => ?_) (fun j30 hj33 => ?_)
        · show S0 X _ q25.1 45 [some (.ref (gh (xG X) + a0)), some (.int p1), none, none] [.int s31] _
          refine s_istore_n (pc := 45) 2 dX12_testOf_45 rfl (nlt rfl) rfl (L' := [some (.ref (gh (xG X) + a0)), some (.int p1), some (.int s31), none]) rfl ?_
          refine s_goto (pc := 46) 6 dX12_testOf_46 rfl ?_
          exact s_drop (hT10 (q25.1, s31) (hs8.tr (h19.tr h28))) (And.intro rfl (And.intro rfl (And.intro rfl trivial)))
        · refine s_join q25.1 (fun s35 : Unit => q25.1) 40 (fun s35 : Unit => [some (.ref (gh (xG X) + a0)), some (.int p1), none, none]) (fun s35 : Unit => []) (fun s35 hs36 => ?_) (fun j34 hj37 => ?_)
          · show S0 X _ q25.1 40 [some (.ref (gh (xG X) + a0)), some (.int p1), none, none] [] _
            refine s_iconst (pc := 40) 1 dX12_testOf_40 kc_1 ?_
            refine s_goto (pc := 41) 45 dX12_testOf_41 rfl ?_
            exact s_drop (hj33 1 Le.rf) (And.intro rfl (And.intro rfl trivial))
          · refine s_ifne (pc := 33) 40 dX12_testOf_33 rfl ?_ ?_
            · exact s_drop (hj37 () Le.rf) (And.intro rfl (And.intro rfl trivial))
            · refine s_iload_n (pc := 36) 3 dX12_testOf_36 rfl rfl ?_
              refine s_ifeq (pc := 37) 44 dX12_testOf_37 rfl ?_ ?_
              · refine s_iconst (pc := 44) 0 dX12_testOf_44 kc_0 ?_
                exact s_drop (hj33 0 Le.rf) (And.intro rfl (And.intro rfl trivial))
              · exact s_drop (hj37 () Le.rf) (And.intro rfl (And.intro rfl trivial))
      · refine s_join q16.1 (fun s39 : Unit => q16.1) 27 (fun s39 : Unit => [some (.ref (gh (xG X) + a0)), some (.int p1), some (.int s7.2), none]) (fun s39 : Unit => [.ref (gh (xG X) + a0)]) (fun s39 hs40 => ?_) (fun j38 hj41 => ?_)
        · show S0 X _ q16.1 27 [some (.ref (gh (xG X) + a0)), some (.int p1), some (.int s7.2), none] [.ref (gh (xG X) + a0)] _
          refine s_iconst (pc := 27) 0 dX12_testOf_27 kc_0 ?_
          exact s_drop (hj24 0 Le.rf) (And.intro rfl (And.intro rfl (And.intro rfl trivial)))
        · refine s_ifeq (pc := 16) 27 dX12_testOf_16 rfl ?_ ?_
          · exact s_drop (hj41 () Le.rf) (And.intro rfl (And.intro rfl (And.intro rfl trivial)))
          · refine s_iload_n (pc := 19) 2 dX12_testOf_19 rfl rfl ?_
            refine s_ifne (pc := 20) 27 dX12_testOf_20 rfl ?_ ?_
            · exact s_drop (hj41 () Le.rf) (And.intro rfl (And.intro rfl (And.intro rfl trivial)))
            · refine s_iconst (pc := 23) 1 dX12_testOf_23 kc_1 ?_
              refine s_goto (pc := 24) 28 dX12_testOf_24 rfl ?_
              exact s_drop (hj24 1 Le.rf) (And.intro rfl (And.intro rfl (And.intro rfl trivial)))
noncomputable def G_X12_bothOf : Nat → (Mem → Nat → Int32 → Option (Mem × Int32)) × (Mem → Nat → Int32 → Option (Mem × Int32)) × (Mem → Nat → Int32 → Option (Mem × Int32)) × (Mem → Nat → Int32 → Option (Mem × Int32))
  | 0 => ((fun _ _ _ => none), (fun _ _ _ => none), (fun _ _ _ => none), (fun _ _ _ => none))
  | d + 1 => (b_X12_bothOf ((G_X12_bothOf d).2.1), b_X12_plainOf ((G_X12_bothOf d).2.2.1), b_X12_positiveOf ((G_X12_bothOf d).2.2.2), b_X12_testOf ((G_X12_bothOf d).1))
noncomputable def f_X12_bothOf (d : Nat) : Mem → Nat → Int32 → Option (Mem × Int32) := (G_X12_bothOf d).1
noncomputable def f_X12_plainOf (d : Nat) : Mem → Nat → Int32 → Option (Mem × Int32) := (G_X12_bothOf d).2.1
noncomputable def f_X12_positiveOf (d : Nat) : Mem → Nat → Int32 → Option (Mem × Int32) := (G_X12_bothOf d).2.2.1
noncomputable def f_X12_testOf (d : Nat) : Mem → Nat → Int32 → Option (Mem × Int32) := (G_X12_bothOf d).2.2.2
set_option maxRecDepth 100000 in
theorem tg_X12_bothOf {l : Launch} {G : Gh} : ∀ d : Nat, (∀ (M : Mem) (a0 : Nat) (p1 : Int32) (q : Mem × Int32), f_X12_bothOf d M a0 p1 = some q → Ctr l G yX12_bothOf (Y_X12_bothOf d) M [.ref (gh G + a0), .int p1] q.1 (some (.int q.2))) ∧ (∀ (M : Mem) (a0 : Nat) (p1 : Int32) (q : Mem × Int32), f_X12_plainOf d M a0 p1 = some q → Ctr l G yX12_plainOf (Y_X12_plainOf d) M [.ref (gh G + a0), .int p1] q.1 (some (.int q.2))) ∧ (∀ (M : Mem) (a0 : Nat) (p1 : Int32) (q : Mem × Int32), f_X12_positiveOf d M a0 p1 = some q → Ctr l G yX12_positiveOf (Y_X12_positiveOf d) M [.ref (gh G + a0), .int p1] q.1 (some (.int q.2))) ∧ (∀ (M : Mem) (a0 : Nat) (p1 : Int32) (q : Mem × Int32), f_X12_testOf d M a0 p1 = some q → Ctr l G yX12_testOf (Y_X12_testOf d) M [.ref (gh G + a0), .int p1] q.1 (some (.int q.2))) := by
  intro d
  induction d with
  | zero => refine ⟨?_, ?_, ?_, ?_⟩ <;> (intros; rename_i h; cases h)
  | succ d ih =>
    obtain ⟨h0, h1, h2, h3⟩ := ih
    refine ⟨?_, ?_, ?_, ?_⟩
    · intro M a0 p1 q h
      exact t_X12_bothOf (fun X hG hl => by subst hG; subst hl; exact h1) h
    · intro M a0 p1 q h
      exact t_X12_plainOf (fun X hG hl => by subst hG; subst hl; exact h2) h
    · intro M a0 p1 q h
      exact t_X12_positiveOf (fun X hG hl => by subst hG; subst hl; exact h3) h
    · intro M a0 p1 q h
      exact t_X12_testOf (fun X hG hl => by subst hG; subst hl; exact h0) h
set_option maxRecDepth 100000 in
theorem tf_X12_bothOf {l : Launch} {G : Gh} {M : Mem} {a0 : Nat} {p1 : Int32} {q : Mem × Int32} (h : f_X12_bothOf 100 M a0 p1 = some q) : Ctr l G yX12_bothOf (Y_X12_bothOf 100) M [.ref (gh G + a0), .int p1] q.1 (some (.int q.2)) := (tg_X12_bothOf 100).1 _ _ _ _ h
set_option maxRecDepth 100000 in
theorem tf_X12_plainOf {l : Launch} {G : Gh} {M : Mem} {a0 : Nat} {p1 : Int32} {q : Mem × Int32} (h : f_X12_plainOf 100 M a0 p1 = some q) : Ctr l G yX12_plainOf (Y_X12_plainOf 100) M [.ref (gh G + a0), .int p1] q.1 (some (.int q.2)) := (tg_X12_bothOf 100).2.1 _ _ _ _ h
set_option maxRecDepth 100000 in
theorem tf_X12_positiveOf {l : Launch} {G : Gh} {M : Mem} {a0 : Nat} {p1 : Int32} {q : Mem × Int32} (h : f_X12_positiveOf 100 M a0 p1 = some q) : Ctr l G yX12_positiveOf (Y_X12_positiveOf 100) M [.ref (gh G + a0), .int p1] q.1 (some (.int q.2)) := (tg_X12_bothOf 100).2.2.1 _ _ _ _ h
set_option maxRecDepth 100000 in
theorem tf_X12_testOf {l : Launch} {G : Gh} {M : Mem} {a0 : Nat} {p1 : Int32} {q : Mem × Int32} (h : f_X12_testOf 100 M a0 p1 = some q) : Ctr l G yX12_testOf (Y_X12_testOf 100) M [.ref (gh G + a0), .int p1] q.1 (some (.int q.2)) := (tg_X12_bothOf 100).2.2.2 _ _ _ _ h
set_option maxRecDepth 100000 in
set_option maxHeartbeats 8000000 in
noncomputable def f_X12_nextSum (M : Mem) (a0 : Nat) (p1 : Int32) (p2 : Int32) : Option Mem :=
  grd (okO M 12 a0) (bv (wI M a0 28 0) (fun M2 => Option.bind (mR M2 a0 55) (fun r6 => Option.bind (f_X12_sumOf 100 M2 a0 p2) (fun q7 => grd (okO q7.1 15 r6) (grd (vp_in p1 (mL q7.1 r6)) (bv (wJ q7.1 r6 p1.toNatClampNeg q7.2) (fun M14 => bv (fun (s19 : Int32) => grd (pb s19) (bv (wI M14 a0 53 s19) (fun M22 => some M22))) (fun j18 => bv (fun (s27 : Unit) => j18 0) (fun j26 => if (mI M14 a0 53) = 0 then (j26 ()) else (if (mI M14 a0 28) = 0 then (j18 1) else (j26 ())))))))))))
abbrev Y_X12_nextSum : Sta := (RX12, "nextSum", cX12_nextSum, 3, none, 104)
set_option maxRecDepth 100000 in
set_option maxHeartbeats 8000000 in
theorem t_X12_nextSum {l : Launch} {G : Gh} {M : Mem} {a0 : Nat} {p1 : Int32} {p2 : Int32} {q : Mem} (h : f_X12_nextSum M a0 p1 p2 = some q) : Ctr l G yX12_nextSum Y_X12_nextSum M [.ref (gh G + a0), .int p1, .int p2] q (none) := by
  refine Ctr.of (Y := Y_X12_nextSum) (L := [some (.ref (gh G + a0)), some (.int p1), some (.int p2)]) (t := Option.bind (f_X12_nextSum M a0 p1 p2) (fun q => some (q, (none : Option Value)))) (by decide) rfl rfl (nle rfl) (Lof_in 0 _ rfl) (fun X hG hl => ?_) (by rw [h]; rfl)
  subst hG
  subst hl
  unfold f_X12_nextSum
  refine s_aload_n (pc := 0) 0 dX12_nextSum_0 rfl rfl ?_
  refine s_iconst (pc := 1) 0 dX12_nextSum_1 kc_0 ?_
  refine s_grd (fun o1 => ?_)
  refine s_puti (pc := 2) F_12 28 rfl o1 rfl rfl (by decide) dX12_nextSum_2 kf_X12_319 (fun M2 hM3 => ?_)
  have h4 := le_wI hM3
  have o5 := h4.ok o1
  refine s_aload_n (pc := 5) 0 dX12_nextSum_5 rfl rfl ?_
  refine s_geto (pc := 6) F_12 55 rfl o5 dX12_nextSum_6 kf_X12_114 ?_
  refine s_rvB (fun r6 => ?_)
  refine s_iload_n (pc := 9) 1 dX12_nextSum_9 rfl rfl ?_
  refine s_aload_n (pc := 10) 0 dX12_nextSum_10 rfl rfl ?_
  refine s_iload_n (pc := 11) 2 dX12_nextSum_11 rfl rfl ?_
  refine s_bind (fun q7 hq8 => ?_)
  have hC9 := tf_X12_sumOf (l := xl X) (G := xG X) hq8
  refine s_callV (pc := 12) (As := [.int p2]) (st := [.int p1, .ref (gh (xG X) + r6)]) (nlt rfl) (q := (RX12, TX12, 59)) rfl rfl o5 cl_X12_sumOf wi_X12_sumOf wl_X12_sumOf km_X12_336 rfl rfl (nle rfl) (nle rfl) (nle rfl) dX12_nextSum_12 hC9 ?_
  have h10 := hC9.1 X
  have o11 := h10.ok o5
  show S0 X _ q7.1 15 [some (.ref (gh (xG X) + a0)), some (.int p1), some (.int p2)] [.long q7.2, .int p1, .ref (gh (xG X) + r6)] _
  refine s_grd (fun o12 => ?_)
  refine s_grd (fun i13 => ?_)
  refine s_last (pc := 15) o12 i13 dX12_nextSum_15 (fun M14 hM15 => ?_)
  have h16 := le_wJ hM15
  have o17 := h16.ok o11
  refine s_aload_n (pc := 16) 0 dX12_nextSum_16 rfl rfl ?_
  refine s_aload_n (pc := 17) 0 dX12_nextSum_17 rfl rfl ?_
  refine s_geti (pc := 18) F_12 53 rfl o17 dX12_nextSum_18 kf_X12_431 ?_
  refine s_join M14 (fun s19 : Int32 => M14) 36 (fun s19 : Int32 => [none, none, none]) (fun s19 : Int32 => [.int s19, .ref (gh (xG X) + a0)]) (fun s19 hs20 => ?_) (fun j18 hj21 => ?_)
  · show S0 X _ M14 36 [none, none, none] [.int s19, .ref (gh (xG X) + a0)] _
    refine s_grd (fun g25 => ?_)
    refine s_puti (pc := 36) F_12 53 rfl o17 rfl g25.1 g25.2 dX12_nextSum_36 kf_X12_431 (fun M22 hM23 => ?_)
    have h24 := le_wI hM23
    exact s_vret rfl dX12_nextSum_39
  · refine s_join M14 (fun s27 : Unit => M14) 35 (fun s27 : Unit => [none, none, none]) (fun s27 : Unit => [.ref (gh (xG X) + a0)]) (fun s27 hs28 => ?_) (fun j26 hj29 => ?_)
    · show S0 X _ M14 35 [none, none, none] [.ref (gh (xG X) + a0)] _
      refine s_iconst (pc := 35) 0 dX12_nextSum_35 kc_0 ?_
      exact s_drop (hj21 0 Le.rf) trivial
    · refine s_ifeq (pc := 21) 35 dX12_nextSum_21 rfl ?_ ?_
      · exact s_drop (hj29 () Le.rf) trivial
      · refine s_aload_n (pc := 24) 0 dX12_nextSum_24 rfl rfl ?_
        refine s_geti (pc := 25) F_12 28 rfl o17 dX12_nextSum_25 kf_X12_319 ?_
        refine s_ifne (pc := 28) 35 dX12_nextSum_28 rfl ?_ ?_
        · exact s_drop (hj29 () Le.rf) trivial
        · refine s_iconst (pc := 31) 1 dX12_nextSum_31 kc_1 ?_
          refine s_goto (pc := 32) 36 dX12_nextSum_32 rfl ?_
          exact s_drop (hj21 1 Le.rf) trivial
set_option maxRecDepth 100000 in
set_option maxHeartbeats 8000000 in
noncomputable def f_X7_comparison (M : Mem) (a0 : Nat) (p1 : Int32) : Option (Mem × Int32) :=
  grd (okO M 7 a0) (Option.bind (f_X7_sum 100 M a0 p1) (fun q2 => if q2.2 = 0 then (some (q2.1, 0)) else (Option.bind (f_X7_opOf q2.1 a0 8 10) (fun q7 => if q7 = (-1) then (Option.bind (f_X7_fail q2.1 a0) (fun q27 => grd (bl q27.2) (some (q27.1, q27.2)))) else (Option.bind (f_X7_next q2.1 a0) (fun q10 => Option.bind (f_X7_sum 100 q10 a0 p1) (fun q15 => if q15.2 = 0 then (some (q15.1, 0)) else (Option.bind (mR q15.1 a0 3) (fun r20 => grd (okO q15.1 9 r20) (Option.bind (f_X9_emit q15.1 r20 q7 0) (fun q22 => some (q22.1, 1))))))))))))
abbrev Y_X7_comparison : Sta := (RX7, "comparison", cX7_comparison, 3, (some .boolean), 104)
set_option maxRecDepth 100000 in
set_option maxHeartbeats 8000000 in
theorem t_X7_comparison {l : Launch} {G : Gh} {M : Mem} {a0 : Nat} {p1 : Int32} {q : Mem × Int32} (h : f_X7_comparison M a0 p1 = some q) : Ctr l G yX7_comparison Y_X7_comparison M [.ref (gh G + a0), .int p1] q.1 (some (.int q.2)) := by
  refine Ctr.of (Y := Y_X7_comparison) (L := [some (.ref (gh G + a0)), some (.int p1), none]) (t := Option.bind (f_X7_comparison M a0 p1) (fun q => some (q.1, some (.int q.2)))) (by decide) rfl rfl (nle rfl) (Lof_in 1 _ rfl) (fun X hG hl => ?_) (by rw [h]; rfl)
  subst hG
  subst hl
  unfold f_X7_comparison
  refine s_aload_n (pc := 0) 0 dX7_comparison_0 rfl rfl ?_
  refine s_iload_n (pc := 1) 1 dX7_comparison_1 rfl rfl ?_
  refine s_grd (fun o1 => ?_)
  refine s_bind (fun q2 hq3 => ?_)
  have hC4 := tf_X7_sum (l := xl X) (G := xG X) hq3
  refine s_callV (pc := 2) (As := [.int p1]) (st := []) (nlt rfl) (q := (RX7, TX7, 10)) rfl rfl o1 cl_X7_sum wi_X7_sum wl_X7_sum km_X7_137 rfl rfl (nle rfl) (nle rfl) (nle rfl) dX7_comparison_2 hC4 ?_
  have h5 := hC4.1 X
  have o6 := h5.ok o1
  show S0 X _ q2.1 5 [some (.ref (gh (xG X) + a0)), some (.int p1), none] [.int q2.2] _
  refine s_ifne (pc := 5) 10 dX7_comparison_5 rfl ?_ ?_
  · refine s_aload_n (pc := 10) 0 dX7_comparison_10 rfl rfl ?_
    refine s_bipush (pc := 11) 8 dX7_comparison_11 kb_8 ?_
    refine s_bipush (pc := 13) 10 dX7_comparison_13 kb_10 ?_
    refine s_bind (fun q7 hq8 => ?_)
    have hC9 := t_X7_opOf (l := xl X) (G := xG X) hq8
    refine s_callV (pc := 15) (As := [.int 8, .int 10]) (st := []) (nlt rfl) (q := (RX7, TX7, 10)) rfl rfl o6 cl_X7_opOf wi_X7_opOf wl_X7_opOf km_X7_155 rfl rfl (nle rfl) (nle rfl) (nle rfl) dX7_comparison_15 hC9 ?_
    show S0 X _ q2.1 18 [some (.ref (gh (xG X) + a0)), some (.int p1), none] [.int q7] _
    refine s_istore_n (pc := 18) 2 dX7_comparison_18 rfl (nlt rfl) rfl (L' := [some (.ref (gh (xG X) + a0)), some (.int p1), some (.int q7)]) rfl ?_
    refine s_iload_n (pc := 19) 2 dX7_comparison_19 rfl rfl ?_
    refine s_iconst (pc := 20) (-1) dX7_comparison_20 kc_m1 ?_
    refine s_icne (pc := 21) 29 dX7_comparison_21 rfl ?_ ?_
    · refine s_aload_n (pc := 29) 0 dX7_comparison_29 rfl rfl ?_
      refine s_bind (fun q10 hq11 => ?_)
      have hC12 := t_X7_next (l := xl X) (G := xG X) hq11
      refine s_callV (pc := 30) (As := []) (st := []) (nlt rfl) (q := (RX7, TX7, 10)) rfl rfl o6 cl_X7_next wi_X7_next wl_X7_next km_X7_79 rfl rfl (nle rfl) (nle rfl) (nle rfl) dX7_comparison_30 hC12 ?_
      have h13 := hC12.1 X
      have o14 := h13.ok o6
      show S0 X _ q10 33 [some (.ref (gh (xG X) + a0)), some (.int p1), some (.int q7)] [] _
      refine s_aload_n (pc := 33) 0 dX7_comparison_33 rfl rfl ?_
      refine s_iload_n (pc := 34) 1 dX7_comparison_34 rfl rfl ?_
      refine s_bind (fun q15 hq16 => ?_)
      have hC17 := tf_X7_sum (l := xl X) (G := xG X) hq16
      refine s_callV (pc := 35) (As := [.int p1]) (st := []) (nlt rfl) (q := (RX7, TX7, 10)) rfl rfl o14 cl_X7_sum wi_X7_sum wl_X7_sum km_X7_137 rfl rfl (nle rfl) (nle rfl) (nle rfl) dX7_comparison_35 hC17 ?_
      have h18 := hC17.1 X
      have o19 := h18.ok o14
      show S0 X _ q15.1 38 [some (.ref (gh (xG X) + a0)), some (.int p1), some (.int q7)] [.int q15.2] _
      refine s_ifne (pc := 38) 43 dX7_comparison_38 rfl ?_ ?_
      · refine s_aload_n (pc := 43) 0 dX7_comparison_43 rfl rfl ?_
        refine s_geto (pc := 44) F_7 3 rfl o19 dX7_comparison_44 kf_X7_26 ?_
        refine s_rvB (fun r20 => ?_)
        refine s_iload_n (pc := 47) 2 dX7_comparison_47 rfl rfl ?_
        refine s_iconst (pc := 48) 0 dX7_comparison_48 kc_0 ?_
        refine s_grd (fun o21 => ?_)
        refine s_bind (fun q22 hq23 => ?_)
        have hC24 := t_X9_emit (l := xl X) (G := xG X) hq23
        refine s_callV (pc := 49) (As := [.int q7, .int 0]) (st := []) (nlt rfl) (q := (RX9, TX9, 5)) rfl rfl o21 cl_X9_emit wi_X9_emit wl_X9_emit km_X7_134 rfl rfl (nle rfl) (nle rfl) (nle rfl) dX7_comparison_49 hC24 ?_
        have h25 := hC24.1 X
        have o26 := h25.ok o19
        show S0 X _ q22.1 52 [some (.ref (gh (xG X) + a0)), some (.int p1), some (.int q7)] [.int q22.2] _
        refine s_pop (pc := 52) dX7_comparison_52 rfl ?_
        refine s_iconst (pc := 53) 1 dX7_comparison_53 kc_1 ?_
        exact s_zret rfl rfl dX7_comparison_54
      · refine s_iconst (pc := 41) 0 dX7_comparison_41 kc_0 ?_
        exact s_zret rfl rfl dX7_comparison_42
    · refine s_aload_n (pc := 24) 0 dX7_comparison_24 rfl rfl ?_
      refine s_bind (fun q27 hq28 => ?_)
      have hC29 := t_X7_fail (l := xl X) (G := xG X) hq28
      refine s_callV (pc := 25) (As := []) (st := []) (nlt rfl) (q := (RX7, TX7, 10)) rfl rfl o6 cl_X7_fail wi_X7_fail wl_X7_fail km_X7_76 rfl rfl (nle rfl) (nle rfl) (nle rfl) dX7_comparison_25 hC29 ?_
      have h30 := hC29.1 X
      have o31 := h30.ok o6
      show S0 X _ q27.1 28 [some (.ref (gh (xG X) + a0)), some (.int p1), some (.int q7)] [.int q27.2] _
      refine s_grd (fun g32 => ?_)
      exact s_zret rfl g32 dX7_comparison_28
  · refine s_iconst (pc := 8) 0 dX7_comparison_8 kc_0 ?_
    exact s_zret rfl rfl dX7_comparison_9
set_option maxRecDepth 100000 in
set_option maxHeartbeats 8000000 in
noncomputable def f_X7_sumFor (M : Mem) (a0 : Nat) (p1 : Int32) : Option (Mem × Int32) :=
  grd (okO M 7 a0) (Option.bind (mR M a0 3) (fun r2 => Option.bind (mR M a0 3) (fun r3 => grd (okO M 9 r3) (grd (okO M 9 r2) (Option.bind (f_X9_set M r2 p1 (mI M r3 3)) (fun q6 => Option.bind (f_X7_sum 100 q6 a0 0) (fun q11 => if q11.2 = 0 then (some (q11.1, 0)) else (Option.bind (mR q11.1 a0 3) (fun r16 => grd (okO q11.1 9 r16) (Option.bind (f_X9_emit q11.1 r16 0 0) (fun q18 => some (q18.1, 1))))))))))))
abbrev Y_X7_sumFor : Sta := (RX7, "sumFor", cX7_sumFor, 2, (some .boolean), 104)
set_option maxRecDepth 100000 in
set_option maxHeartbeats 8000000 in
theorem t_X7_sumFor {l : Launch} {G : Gh} {M : Mem} {a0 : Nat} {p1 : Int32} {q : Mem × Int32} (h : f_X7_sumFor M a0 p1 = some q) : Ctr l G yX7_sumFor Y_X7_sumFor M [.ref (gh G + a0), .int p1] q.1 (some (.int q.2)) := by
  refine Ctr.of (Y := Y_X7_sumFor) (L := [some (.ref (gh G + a0)), some (.int p1)]) (t := Option.bind (f_X7_sumFor M a0 p1) (fun q => some (q.1, some (.int q.2)))) (by decide) rfl rfl (nle rfl) (Lof_in 0 _ rfl) (fun X hG hl => ?_) (by rw [h]; rfl)
  subst hG
  subst hl
  unfold f_X7_sumFor
  refine s_aload_n (pc := 0) 0 dX7_sumFor_0 rfl rfl ?_
  refine s_grd (fun o1 => ?_)
  refine s_geto (pc := 1) F_7 3 rfl o1 dX7_sumFor_1 kf_X7_26 ?_
  refine s_rvB (fun r2 => ?_)
  refine s_iload_n (pc := 4) 1 dX7_sumFor_4 rfl rfl ?_
  refine s_aload_n (pc := 5) 0 dX7_sumFor_5 rfl rfl ?_
  refine s_geto (pc := 6) F_7 3 rfl o1 dX7_sumFor_6 kf_X7_26 ?_
  refine s_rvB (fun r3 => ?_)
  refine s_grd (fun o4 => ?_)
  refine s_geti (pc := 9) F_9 3 rfl o4 dX7_sumFor_9 kf_X7_126 ?_
  refine s_grd (fun o5 => ?_)
  refine s_bind (fun q6 hq7 => ?_)
  have hC8 := t_X9_set (l := xl X) (G := xG X) hq7
  refine s_callV (pc := 12) (As := [.int p1, .int (mI M r3 3)]) (st := []) (nlt rfl) (q := (RX9, TX9, 5)) rfl rfl o5 cl_X9_set wi_X9_set wl_X9_set km_X7_123 rfl rfl (nle rfl) (nle rfl) (nle rfl) dX7_sumFor_12 hC8 ?_
  have h9 := hC8.1 X
  have o10 := h9.ok o1
  show S0 X _ q6 15 [some (.ref (gh (xG X) + a0)), some (.int p1)] [] _
  refine s_aload_n (pc := 15) 0 dX7_sumFor_15 rfl rfl ?_
  refine s_iconst (pc := 16) 0 dX7_sumFor_16 kc_0 ?_
  refine s_bind (fun q11 hq12 => ?_)
  have hC13 := tf_X7_sum (l := xl X) (G := xG X) hq12
  refine s_callV (pc := 17) (As := [.int 0]) (st := []) (nlt rfl) (q := (RX7, TX7, 10)) rfl rfl o10 cl_X7_sum wi_X7_sum wl_X7_sum km_X7_137 rfl rfl (nle rfl) (nle rfl) (nle rfl) dX7_sumFor_17 hC13 ?_
  have h14 := hC13.1 X
  have o15 := h14.ok o10
  show S0 X _ q11.1 20 [some (.ref (gh (xG X) + a0)), some (.int p1)] [.int q11.2] _
  refine s_ifne (pc := 20) 25 dX7_sumFor_20 rfl ?_ ?_
  · refine s_aload_n (pc := 25) 0 dX7_sumFor_25 rfl rfl ?_
    refine s_geto (pc := 26) F_7 3 rfl o15 dX7_sumFor_26 kf_X7_26 ?_
    refine s_rvB (fun r16 => ?_)
    refine s_iconst (pc := 29) 0 dX7_sumFor_29 kc_0 ?_
    refine s_iconst (pc := 30) 0 dX7_sumFor_30 kc_0 ?_
    refine s_grd (fun o17 => ?_)
    refine s_bind (fun q18 hq19 => ?_)
    have hC20 := t_X9_emit (l := xl X) (G := xG X) hq19
    refine s_callV (pc := 31) (As := [.int 0, .int 0]) (st := []) (nlt rfl) (q := (RX9, TX9, 5)) rfl rfl o17 cl_X9_emit wi_X9_emit wl_X9_emit km_X7_134 rfl rfl (nle rfl) (nle rfl) (nle rfl) dX7_sumFor_31 hC20 ?_
    have h21 := hC20.1 X
    have o22 := h21.ok o15
    show S0 X _ q18.1 34 [some (.ref (gh (xG X) + a0)), some (.int p1)] [.int q18.2] _
    refine s_pop (pc := 34) dX7_sumFor_34 rfl ?_
    refine s_iconst (pc := 35) 1 dX7_sumFor_35 kc_1 ?_
    exact s_zret rfl rfl dX7_sumFor_36
  · refine s_iconst (pc := 23) 0 dX7_sumFor_23 kc_0 ?_
    exact s_zret rfl rfl dX7_sumFor_24
abbrev Y_X12_readBoth (d : Nat) : Sta := (RX12, "readBoth", cX12_readBoth, 2, none, 105 + d)
abbrev Y_X12_readPlain (d : Nat) : Sta := (RX12, "readPlain", cX12_readPlain, 4, none, 105 + d)
abbrev Y_X12_readTest (d : Nat) : Sta := (RX12, "readTest", cX12_readTest, 2, none, 105 + d)
set_option maxRecDepth 100000 in
set_option maxHeartbeats 8000000 in
noncomputable def b_X12_readBoth (g_X12_readPlain : Mem → Nat → Int32 → Option Mem) (M : Mem) (a0 : Nat) (p1 : Int32) : Option Mem :=
  grd (okO M 12 a0) (Option.bind (g_X12_readPlain M a0 p1) (fun q2 => Option.bind (loopO (σ := Mem) (ρ := Mem) (fun s7 => Option.bind (f_X12_takes0 s7 a0 5) (fun q16 => if q16.2 = 0 then (some (.inr q16.1)) else (Option.bind (g_X12_readPlain q16.1 a0 p1) (fun q21 => some (.inl q21))))) q2) (fun (x14 : Mem) => some x14)))
set_option maxRecDepth 100000 in
set_option maxHeartbeats 8000000 in
theorem t_X12_readBoth {d : Nat} {g_X12_readPlain : Mem → Nat → Int32 → Option Mem} {l : Launch} {G : Gh} {M : Mem} {a0 : Nat} {p1 : Int32} {q : Mem} (hg_X12_readPlain : ∀ X : Ctx, xG X = G → xl X = l → ∀ (M : Mem) (a0 : Nat) (p1 : Int32) (q : Mem), g_X12_readPlain M a0 p1 = some q → Ctr (xl X) (xG X) yX12_readPlain (Y_X12_readPlain d) M [.ref (gh (xG X) + a0), .int p1] q (none)) (h : b_X12_readBoth g_X12_readPlain M a0 p1 = some q) : Ctr l G yX12_readBoth (Y_X12_readBoth (d + 1)) M [.ref (gh G + a0), .int p1] q (none) := by
  refine Ctr.of (Y := (Y_X12_readBoth (d + 1))) (L := [some (.ref (gh G + a0)), some (.int p1)]) (t := Option.bind (b_X12_readBoth g_X12_readPlain M a0 p1) (fun q => some (q, (none : Option Value)))) (by decide) rfl rfl (nle rfl) (Lof_in 0 _ rfl) (fun X hG hl => ?_) (by rw [h]; rfl)
  subst hG
  subst hl
  unfold b_X12_readBoth
  refine s_aload_n (pc := 0) 0 dX12_readBoth_0 rfl rfl ?_
  refine s_iload_n (pc := 1) 1 dX12_readBoth_1 rfl rfl ?_
  refine s_grd (fun o1 => ?_)
  refine s_bind (fun q2 hq3 => ?_)
  have hC4 := hg_X12_readPlain X rfl rfl M a0 p1 q2 hq3
  refine s_callV (pc := 2) (As := [.int p1]) (st := []) (nlt rfl) (q := (RX12, TX12, 59)) rfl rfl o1 cl_X12_readPlain wi_X12_readPlain wl_X12_readPlain km_X12_275 rfl rfl (Nat.le_refl _) (nle rfl) (nle rfl) dX12_readBoth_2 hC4 ?_
  have h5 := hC4.1 X
  have o6 := h5.ok o1
  show S0 X _ q2 5 [some (.ref (gh (xG X) + a0)), some (.int p1)] [] _
  refine s_drop (L' := [some (.ref (gh (xG X) + a0)), some (.int p1)]) ?_ (And.intro rfl (And.intro rfl trivial))
  refine s_loop1 q2 (fun s7 : Mem => s7) (fun s7 : Mem => [some (.ref (gh (xG X) + a0)), some (.int p1)]) (fun x14 : Mem => x14) 21 (fun x14 : Mem => [none, none]) (fun x14 hx15 => ?_) (fun T9 R11 hT10 hR12 s7 hs8 => ?_) q2 Le.rf
  · show S0 X _ x14 21 [none, none] [] _
    exact s_vret rfl dX12_readBoth_21
  · show S0 X _ s7 5 [some (.ref (gh (xG X) + a0)), some (.int p1)] [] _
    have o13 := hs8.ok o6
    refine s_aload_n (pc := 5) 0 dX12_readBoth_5 rfl rfl ?_
    refine s_iconst (pc := 6) 5 dX12_readBoth_6 kc_5 ?_
    refine s_bind (fun q16 hq17 => ?_)
    have hC18 := t_X12_takes0 (l := xl X) (G := xG X) hq17
    refine s_callV (pc := 7) (As := [.int 5]) (st := []) (nlt rfl) (q := (RX12, TX12, 59)) rfl rfl o13 cl_X12_takes0 wi_X12_takes0 wl_X12_takes0 km_X12_240 rfl rfl (Nat.le_trans (nle rfl : _ ≤ 105) (Nat.le_add_right 105 _)) (nle rfl) (nle rfl) dX12_readBoth_7 hC18 ?_
    have h19 := hC18.1 X
    have o20 := h19.ok o13
    show S0 X _ q16.1 10 [some (.ref (gh (xG X) + a0)), some (.int p1)] [.int q16.2] _
    refine s_ifeq (pc := 10) 21 dX12_readBoth_10 rfl ?_ ?_
    · exact s_drop (hR12 q16.1 (hs8.tr h19)) trivial
    · refine s_aload_n (pc := 13) 0 dX12_readBoth_13 rfl rfl ?_
      refine s_iload_n (pc := 14) 1 dX12_readBoth_14 rfl rfl ?_
      refine s_bind (fun q21 hq22 => ?_)
      have hC23 := hg_X12_readPlain X rfl rfl q16.1 a0 p1 q21 hq22
      refine s_callV (pc := 15) (As := [.int p1]) (st := []) (nlt rfl) (q := (RX12, TX12, 59)) rfl rfl o20 cl_X12_readPlain wi_X12_readPlain wl_X12_readPlain km_X12_275 rfl rfl (Nat.le_refl _) (nle rfl) (nle rfl) dX12_readBoth_15 hC23 ?_
      have h24 := hC23.1 X
      have o25 := h24.ok o20
      show S0 X _ q21 18 [some (.ref (gh (xG X) + a0)), some (.int p1)] [] _
      refine s_goto (pc := 18) 5 dX12_readBoth_18 rfl ?_
      exact s_drop (hT10 q21 (hs8.tr (h19.tr h24))) (And.intro rfl (And.intro rfl trivial))
set_option maxRecDepth 100000 in
set_option maxHeartbeats 8000000 in
noncomputable def b_X12_readPlain (g_X12_readTest : Mem → Nat → Int32 → Option Mem) (M : Mem) (a0 : Nat) (p1 : Int32) : Option Mem :=
  Option.bind (loopO (σ := Mem × Int32) (ρ := Mem) (fun s1 => if s1.2 = 0 then (some (.inr s1.1)) else (grd (okO s1.1 12 a0) (Option.bind (f_X12_takes0 s1.1 a0 6) (fun q10 => some (.inl (q10.1, q10.2)))))) (M, 1)) (fun (x7 : Mem) => grd (okO x7 12 a0) (Option.bind (f_X12_fine x7 a0) (fun q16 => if q16 = 0 then (some x7) else (Option.bind (mR x7 a0 19) (fun r19 => grd (okO x7 14 r19) (grd (vp_in (mI x7 a0 23) (mL x7 r19)) (bv (mI x7 r19 (mI x7 a0 23).toNatClampNeg : Int32) (fun x22 => Option.bind (f_X12_sign 40) (fun q23 => if x22 = q23 then (bv (fun (s66 : Mem) => Option.bind (f_X12_fine s66 a0) (fun q70 => if q70 = 0 then (some s66) else (bv (wI s66 a0 23 ((mI s66 a0 23) + 1)) (fun M73 => Option.bind (g_X12_readTest M73 a0 (p1 + 1)) (fun q77 => Option.bind (f_X12_sign 41) (fun q82 => Option.bind (f_X12_must q77 a0 q82) (fun q85 => some q85))))))) (fun j65 => if p1 = 8 then (Option.bind (f_X12_faults x7 a0) (fun q90 => j65 q90)) else (j65 x7))) else (Option.bind (f_X12_readSum 100 x7 a0 p1) (fun q26 => Option.bind (f_X12_sign 60) (fun q31 => Option.bind (f_X12_takes0 q26 a0 q31) (fun q34 => bv (fun (s40 : Mem) => Option.bind (f_X12_readSum 100 s40 a0 p1) (fun q44 => some q44)) (fun j39 => if q34.2 = 0 then (Option.bind (f_X12_sign 62) (fun q49 => Option.bind (f_X12_takes0 q34.1 a0 q49) (fun q52 => if q52.2 = 0 then (Option.bind (f_X12_sign 61) (fun q57 => Option.bind (f_X12_must q52.1 a0 q57) (fun q60 => j39 q60))) else (j39 q52.1)))) else (j39 q34.1)))))))))))))))
set_option maxRecDepth 100000 in
set_option maxHeartbeats 8000000 in
theorem t_X12_readPlain {d : Nat} {g_X12_readTest : Mem → Nat → Int32 → Option Mem} {l : Launch} {G : Gh} {M : Mem} {a0 : Nat} {p1 : Int32} {q : Mem} (hg_X12_readTest : ∀ X : Ctx, xG X = G → xl X = l → ∀ (M : Mem) (a0 : Nat) (p1 : Int32) (q : Mem), g_X12_readTest M a0 p1 = some q → Ctr (xl X) (xG X) yX12_readTest (Y_X12_readTest d) M [.ref (gh (xG X) + a0), .int p1] q (none)) (h : b_X12_readPlain g_X12_readTest M a0 p1 = some q) : Ctr l G yX12_readPlain (Y_X12_readPlain (d + 1)) M [.ref (gh G + a0), .int p1] q (none) := by
  refine Ctr.of (Y := (Y_X12_readPlain (d + 1))) (L := [some (.ref (gh G + a0)), some (.int p1), none, none]) (t := Option.bind (b_X12_readPlain g_X12_readTest M a0 p1) (fun q => some (q, (none : Option Value)))) (by decide) rfl rfl (nle rfl) (Lof_in 2 _ rfl) (fun X hG hl => ?_) (by rw [h]; rfl)
  subst hG
  subst hl
  unfold b_X12_readPlain
  refine s_iconst (pc := 0) 1 dX12_readPlain_0 kc_1 ?_
  refine s_istore_n (pc := 1) 2 dX12_readPlain_1 rfl (nlt rfl) rfl (L' := [some (.ref (gh (xG X) + a0)), some (.int p1), some (.int 1), none]) rfl ?_
  refine s_drop (L' := [some (.ref (gh (xG X) + a0)), some (.int p1), some (.int 1), none]) ?_ (And.intro rfl (And.intro rfl (And.intro rfl trivial)))
  refine s_loop1 M (fun s1 : Mem × Int32 => s1.1) (fun s1 : Mem × Int32 => [some (.ref (gh (xG X) + a0)), some (.int p1), some (.int s1.2), none]) (fun x7 : Mem => x7) 16 (fun x7 : Mem => [some (.ref (gh (xG X) + a0)), some (.int p1), none, none]) (fun x7 hx8 => ?_) (fun T3 R5 hT4 hR6 s1 hs2 => ?_) (M, 1) Le.rf
  · show S0 X _ x7 16 [some (.ref (gh (xG X) + a0)), some (.int p1), none, none] [] _
    refine s_aload_n (pc := 16) 0 dX12_readPlain_16 rfl rfl ?_
    refine s_grd (fun o15 => ?_)
    refine s_bind (fun q16 hq17 => ?_)
    have hC18 := t_X12_fine (l := xl X) (G := xG X) hq17
    refine s_callV (pc := 17) (As := []) (st := []) (nlt rfl) (q := (RX12, TX12, 59)) rfl rfl o15 cl_X12_fine wi_X12_fine wl_X12_fine km_X12_233 rfl rfl (Nat.le_trans (nle rfl : _ ≤ 105) (Nat.le_add_right 105 _)) (nle rfl) (nle rfl) dX12_readPlain_17 hC18 ?_
    show S0 X _ x7 20 [some (.ref (gh (xG X) + a0)), some (.int p1), none, none] [.int q16] _
    refine s_ifne (pc := 20) 24 dX12_readPlain_20 rfl ?_ ?_
    · refine s_aload_n (pc := 24) 0 dX12_readPlain_24 rfl rfl ?_
      refine s_geto (pc := 25) F_12 19 rfl o15 dX12_readPlain_25 kf_X12_52 ?_
      refine s_rvB (fun r19 => ?_)
      refine s_aload_n (pc := 28) 0 dX12_readPlain_28 rfl rfl ?_
      refine s_geti (pc := 29) F_12 23 rfl o15 dX12_readPlain_29 kf_X12_237 ?_
      refine s_grd (fun o20 => ?_)
      refine s_grd (fun i21 => ?_)
      refine s_iald (pc := 32) o20 i21 dX12_readPlain_32 ?_
      refine s_istore_n (pc := 33) 3 dX12_readPlain_33 rfl (nlt rfl) rfl (L' := [some (.ref (gh (xG X) + a0)), some (.int p1), none, some (.int (mI x7 r19 (mI x7 a0 23).toNatClampNeg))]) rfl ?_
      refine s_bv (fun x22 : Int32 => [some (.ref (gh (xG X) + a0)), some (.int p1), none, some (.int x22)]) (fun x22 => ?_) rfl
      refine s_iload_n (pc := 34) 3 dX12_readPlain_34 rfl rfl ?_
      refine s_bipush (pc := 35) 40 dX12_readPlain_35 kb_40 ?_
      refine s_bind (fun q23 hq24 => ?_)
      have hC25 := t_X12_sign (l := xl X) (G := xG X) (M := x7) hq24
      refine s_callS (pc := 37) (As := [.int 40]) (st := [.int x22]) cl_X12_sign wt_X12_sign km_X12_278 rfl rfl (Nat.le_trans (nle rfl : _ ≤ 105) (Nat.le_add_right 105 _)) (nle rfl) (nle rfl) dX12_readPlain_37 hC25 ?_
      show S0 X _ x7 40 [some (.ref (gh (xG X) + a0)), some (.int p1), none, some (.int x22)] [.int q23, .int x22] _
      refine s_icne (pc := 40) 90 dX12_readPlain_40 rfl ?_ ?_
      · refine s_aload_n (pc := 90) 0 dX12_readPlain_90 rfl rfl ?_
        refine s_iload_n (pc := 91) 1 dX12_readPlain_91 rfl rfl ?_
        refine s_bind (fun q26 hq27 => ?_)
        have hC28 := tf_X12_readSum (l := xl X) (G := xG X) hq27
        refine s_callV (pc := 92) (As := [.int p1]) (st := []) (nlt rfl) (q := (RX12, TX12, 59)) rfl rfl o15 cl_X12_readSum wi_X12_readSum wl_X12_readSum km_X12_253 rfl rfl (Nat.le_trans (nle rfl : _ ≤ 105) (Nat.le_add_right 105 _)) (nle rfl) (nle rfl) dX12_readPlain_92 hC28 ?_
        have h29 := hC28.1 X
        have o30 := h29.ok o15
        show S0 X _ q26 95 [some (.ref (gh (xG X) + a0)), some (.int p1), none, some (.int x22)] [] _
        refine s_aload_n (pc := 95) 0 dX12_readPlain_95 rfl rfl ?_
        refine s_bipush (pc := 96) 60 dX12_readPlain_96 kb_60 ?_
        refine s_bind (fun q31 hq32 => ?_)
        have hC33 := t_X12_sign (l := xl X) (G := xG X) (M := q26) hq32
        refine s_callS (pc := 98) (As := [.int 60]) (st := [.ref (gh (xG X) + a0)]) cl_X12_sign wt_X12_sign km_X12_278 rfl rfl (Nat.le_trans (nle rfl : _ ≤ 105) (Nat.le_add_right 105 _)) (nle rfl) (nle rfl) dX12_readPlain_98 hC33 ?_
        show S0 X _ q26 101 [some (.ref (gh (xG X) + a0)), some (.int p1), none, some (.int x22)] [.int q31, .ref (gh (xG X) + a0)] _
        refine s_bind (fun q34 hq35 => ?_)
        have hC36 := t_X12_takes0 (l := xl X) (G := xG X) hq35
        refine s_callV (pc := 101) (As := [.int q31]) (st := []) (nlt rfl) (q := (RX12, TX12, 59)) rfl rfl o30 cl_X12_takes0 wi_X12_takes0 wl_X12_takes0 km_X12_240 rfl rfl (Nat.le_trans (nle rfl : _ ≤ 105) (Nat.le_add_right 105 _)) (nle rfl) (nle rfl) dX12_readPlain_101 hC36 ?_
        have h37 := hC36.1 X
        have o38 := h37.ok o30
        show S0 X _ q34.1 104 [some (.ref (gh (xG X) + a0)), some (.int p1), none, some (.int x22)] [.int q34.2] _
        refine s_join q34.1 (fun s40 : Mem => s40) 128 (fun s40 : Mem => [some (.ref (gh (xG X) + a0)), some (.int p1), none, none]) (fun s40 : Mem => []) (fun s40 hs41 => ?_) (fun j39 hj42 => ?_)
        · show S0 X _ s40 128 [some (.ref (gh (xG X) + a0)), some (.int p1), none, none] [] _
          have o43 := hs41.ok o38
          refine s_aload_n (pc := 128) 0 dX12_readPlain_128 rfl rfl ?_
          refine s_iload_n (pc := 129) 1 dX12_readPlain_129 rfl rfl ?_
          refine s_bind (fun q44 hq45 => ?_)
          have hC46 := tf_X12_readSum (l := xl X) (G := xG X) hq45
          refine s_callV (pc := 130) (As := [.int p1]) (st := []) (nlt rfl) (q := (RX12, TX12, 59)) rfl rfl o43 cl_X12_readSum wi_X12_readSum wl_X12_readSum km_X12_253 rfl rfl (Nat.le_trans (nle rfl : _ ≤ 105) (Nat.le_add_right 105 _)) (nle rfl) (nle rfl) dX12_readPlain_130 hC46 ?_
          have h47 := hC46.1 X
          have o48 := h47.ok o43
          show S0 X _ q44 133 [some (.ref (gh (xG X) + a0)), some (.int p1), none, none] [] _
          exact s_vret rfl dX12_readPlain_133
        · refine s_ifne (pc := 104) 128 dX12_readPlain_104 rfl ?_ ?_
          · exact s_drop (hj42 q34.1 Le.rf) (And.intro rfl (And.intro rfl trivial))
          · refine s_aload_n (pc := 107) 0 dX12_readPlain_107 rfl rfl ?_
            refine s_bipush (pc := 108) 62 dX12_readPlain_108 kb_62 ?_
            refine s_bind (fun q49 hq50 => ?_)
            have hC51 := t_X12_sign (l := xl X) (G := xG X) (M := q34.1) hq50
            refine s_callS (pc := 110) (As := [.int 62]) (st := [.ref (gh (xG X) + a0)]) cl_X12_sign wt_X12_sign km_X12_278 rfl rfl (Nat.le_trans (nle rfl : _ ≤ 105) (Nat.le_add_right 105 _)) (nle rfl) (nle rfl) dX12_readPlain_110 hC51 ?_
            show S0 X _ q34.1 113 [some (.ref (gh (xG X) + a0)), some (.int p1), none, some (.int x22)] [.int q49, .ref (gh (xG X) + a0)] _
            refine s_bind (fun q52 hq53 => ?_)
            have hC54 := t_X12_takes0 (l := xl X) (G := xG X) hq53
            refine s_callV (pc := 113) (As := [.int q49]) (st := []) (nlt rfl) (q := (RX12, TX12, 59)) rfl rfl o38 cl_X12_takes0 wi_X12_takes0 wl_X12_takes0 km_X12_240 rfl rfl (Nat.le_trans (nle rfl : _ ≤ 105) (Nat.le_add_right 105 _)) (nle rfl) (nle rfl) dX12_readPlain_113 hC54 ?_
            have h55 := hC54.1 X
            have o56 := h55.ok o38
            show S0 X _ q52.1 116 [some (.ref (gh (xG X) + a0)), some (.int p1), none, some (.int x22)] [.int q52.2] _
            refine s_ifne (pc := 116) 128 dX12_readPlain_116 rfl ?_ ?_
            · exact s_drop (hj42 q52.1 h55) (And.intro rfl (And.intro rfl trivial))
            · refine s_aload_n (pc := 119) 0 dX12_readPlain_119 rfl rfl ?_
              refine s_bipush (pc := 120) 61 dX12_readPlain_120 kb_61 ?_
              refine s_bind (fun q57 hq58 => ?_)
              have hC59 := t_X12_sign (l := xl X) (G := xG X) (M := q52.1) hq58
              refine s_callS (pc := 122) (As := [.int 61]) (st := [.ref (gh (xG X) + a0)]) cl_X12_sign wt_X12_sign km_X12_278 rfl rfl (Nat.le_trans (nle rfl : _ ≤ 105) (Nat.le_add_right 105 _)) (nle rfl) (nle rfl) dX12_readPlain_122 hC59 ?_
              show S0 X _ q52.1 125 [some (.ref (gh (xG X) + a0)), some (.int p1), none, some (.int x22)] [.int q57, .ref (gh (xG X) + a0)] _
              refine s_bind (fun q60 hq61 => ?_)
              have hC62 := t_X12_must (l := xl X) (G := xG X) hq61
              refine s_callV (pc := 125) (As := [.int q57]) (st := []) (nlt rfl) (q := (RX12, TX12, 59)) rfl rfl o56 cl_X12_must wi_X12_must wl_X12_must km_X12_256 rfl rfl (Nat.le_trans (nle rfl : _ ≤ 105) (Nat.le_add_right 105 _)) (nle rfl) (nle rfl) dX12_readPlain_125 hC62 ?_
              have h63 := hC62.1 X
              have o64 := h63.ok o56
              show S0 X _ q60 128 [some (.ref (gh (xG X) + a0)), some (.int p1), none, some (.int x22)] [] _
              exact s_drop (hj42 q60 (h55.tr h63)) (And.intro rfl (And.intro rfl trivial))
      · refine s_iload_n (pc := 43) 1 dX12_readPlain_43 rfl rfl ?_
        refine s_bipush (pc := 44) 8 dX12_readPlain_44 kb_8 ?_
        refine s_join x7 (fun s66 : Mem => s66) 53 (fun s66 : Mem => [some (.ref (gh (xG X) + a0)), some (.int p1), none, none]) (fun s66 : Mem => []) (fun s66 hs67 => ?_) (fun j65 hj68 => ?_)
        · show S0 X _ s66 53 [some (.ref (gh (xG X) + a0)), some (.int p1), none, none] [] _
          have o69 := hs67.ok o15
          refine s_aload_n (pc := 53) 0 dX12_readPlain_53 rfl rfl ?_
          refine s_bind (fun q70 hq71 => ?_)
          have hC72 := t_X12_fine (l := xl X) (G := xG X) hq71
          refine s_callV (pc := 54) (As := []) (st := []) (nlt rfl) (q := (RX12, TX12, 59)) rfl rfl o69 cl_X12_fine wi_X12_fine wl_X12_fine km_X12_233 rfl rfl (Nat.le_trans (nle rfl : _ ≤ 105) (Nat.le_add_right 105 _)) (nle rfl) (nle rfl) dX12_readPlain_54 hC72 ?_
          show S0 X _ s66 57 [some (.ref (gh (xG X) + a0)), some (.int p1), none, none] [.int q70] _
          refine s_ifne (pc := 57) 61 dX12_readPlain_57 rfl ?_ ?_
          · refine s_aload_n (pc := 61) 0 dX12_readPlain_61 rfl rfl ?_
            refine s_dup (pc := 62) dX12_readPlain_62 rfl ?_
            refine s_geti (pc := 63) F_12 23 rfl o69 dX12_readPlain_63 kf_X12_237 ?_
            refine s_iconst (pc := 66) 1 dX12_readPlain_66 kc_1 ?_
            refine s_iadd (pc := 67) dX12_readPlain_67 ?_
            refine s_puti (pc := 68) F_12 23 rfl o69 rfl rfl rfl dX12_readPlain_68 kf_X12_237 (fun M73 hM74 => ?_)
            have h75 := le_wI hM74
            have o76 := h75.ok o69
            refine s_aload_n (pc := 71) 0 dX12_readPlain_71 rfl rfl ?_
            refine s_iload_n (pc := 72) 1 dX12_readPlain_72 rfl rfl ?_
            refine s_iconst (pc := 73) 1 dX12_readPlain_73 kc_1 ?_
            refine s_iadd (pc := 74) dX12_readPlain_74 ?_
            refine s_bind (fun q77 hq78 => ?_)
            have hC79 := hg_X12_readTest X rfl rfl M73 a0 (p1 + 1) q77 hq78
            refine s_callV (pc := 75) (As := [.int (p1 + 1)]) (st := []) (nlt rfl) (q := (RX12, TX12, 59)) rfl rfl o76 cl_X12_readTest wi_X12_readTest wl_X12_readTest km_X12_259 rfl rfl (Nat.le_refl _) (nle rfl) (nle rfl) dX12_readPlain_75 hC79 ?_
            have h80 := hC79.1 X
            have o81 := h80.ok o76
            show S0 X _ q77 78 [some (.ref (gh (xG X) + a0)), some (.int p1), none, none] [] _
            refine s_aload_n (pc := 78) 0 dX12_readPlain_78 rfl rfl ?_
            refine s_bipush (pc := 79) 41 dX12_readPlain_79 kb_41 ?_
            refine s_bind (fun q82 hq83 => ?_)
            have hC84 := t_X12_sign (l := xl X) (G := xG X) (M := q77) hq83
            refine s_callS (pc := 81) (As := [.int 41]) (st := [.ref (gh (xG X) + a0)]) cl_X12_sign wt_X12_sign km_X12_278 rfl rfl (Nat.le_trans (nle rfl : _ ≤ 105) (Nat.le_add_right 105 _)) (nle rfl) (nle rfl) dX12_readPlain_81 hC84 ?_
            show S0 X _ q77 84 [some (.ref (gh (xG X) + a0)), some (.int p1), none, none] [.int q82, .ref (gh (xG X) + a0)] _
            refine s_bind (fun q85 hq86 => ?_)
            have hC87 := t_X12_must (l := xl X) (G := xG X) hq86
            refine s_callV (pc := 84) (As := [.int q82]) (st := []) (nlt rfl) (q := (RX12, TX12, 59)) rfl rfl o81 cl_X12_must wi_X12_must wl_X12_must km_X12_256 rfl rfl (Nat.le_trans (nle rfl : _ ≤ 105) (Nat.le_add_right 105 _)) (nle rfl) (nle rfl) dX12_readPlain_84 hC87 ?_
            have h88 := hC87.1 X
            have o89 := h88.ok o81
            show S0 X _ q85 87 [some (.ref (gh (xG X) + a0)), some (.int p1), none, none] [] _
            refine s_goto (pc := 87) 133 dX12_readPlain_87 rfl ?_
            exact s_vret rfl dX12_readPlain_133
          · exact s_vret rfl dX12_readPlain_60
        · refine s_icne (pc := 46) 53 dX12_readPlain_46 rfl ?_ ?_
          · exact s_drop (hj68 x7 Le.rf) (And.intro rfl (And.intro rfl trivial))
          · refine s_aload_n (pc := 49) 0 dX12_readPlain_49 rfl rfl ?_
            refine s_bind (fun q90 hq91 => ?_)
            have hC92 := t_X12_faults (l := xl X) (G := xG X) hq91
            refine s_callV (pc := 50) (As := []) (st := []) (nlt rfl) (q := (RX12, TX12, 59)) rfl rfl o15 cl_X12_faults wi_X12_faults wl_X12_faults km_X12_243 rfl rfl (Nat.le_trans (nle rfl : _ ≤ 105) (Nat.le_add_right 105 _)) (nle rfl) (nle rfl) dX12_readPlain_50 hC92 ?_
            have h93 := hC92.1 X
            have o94 := h93.ok o15
            show S0 X _ q90 53 [some (.ref (gh (xG X) + a0)), some (.int p1), none, some (.int x22)] [] _
            exact s_drop (hj68 q90 h93) (And.intro rfl (And.intro rfl trivial))
    · exact s_vret rfl dX12_readPlain_23
  · show S0 X _ s1.1 2 [some (.ref (gh (xG X) + a0)), some (.int p1), some (.int s1.2), none] [] _
    refine s_iload_n (pc := 2) 2 dX12_readPlain_2 rfl rfl ?_
    refine s_ifeq (pc := 3) 16 dX12_readPlain_3 rfl ?_ ?_
    · exact s_drop (hR6 s1.1 hs2) (And.intro rfl (And.intro rfl trivial))
    · refine s_aload_n (pc := 6) 0 dX12_readPlain_6 rfl rfl ?_
      refine s_bipush (pc := 7) 6 dX12_readPlain_7 kb_6 ?_
      refine s_grd (fun o9 => ?_)
      refine s_bind (fun q10 hq11 => ?_)
      have hC12 := t_X12_takes0 (l := xl X) (G := xG X) hq11
      refine s_callV (pc := 9) (As := [.int 6]) (st := []) (nlt rfl) (q := (RX12, TX12, 59)) rfl rfl o9 cl_X12_takes0 wi_X12_takes0 wl_X12_takes0 km_X12_240 rfl rfl (Nat.le_trans (nle rfl : _ ≤ 105) (Nat.le_add_right 105 _)) (nle rfl) (nle rfl) dX12_readPlain_9 hC12 ?_
      have h13 := hC12.1 X
      have o14 := h13.ok o9
      show S0 X _ q10.1 12 [some (.ref (gh (xG X) + a0)), some (.int p1), some (.int s1.2), none] [.int q10.2] _
      refine s_istore_n (pc := 12) 2 dX12_readPlain_12 rfl (nlt rfl) rfl (L' := [some (.ref (gh (xG X) + a0)), some (.int p1), some (.int q10.2), none]) rfl ?_
      refine s_goto (pc := 13) 2 dX12_readPlain_13 rfl ?_
      exact s_drop (hT4 (q10.1, q10.2) (hs2.tr h13)) (And.intro rfl (And.intro rfl (And.intro rfl trivial)))
set_option maxRecDepth 100000 in
set_option maxHeartbeats 8000000 in
noncomputable def b_X12_readTest (g_X12_readBoth : Mem → Nat → Int32 → Option Mem) (M : Mem) (a0 : Nat) (p1 : Int32) : Option Mem :=
  grd (okO M 12 a0) (Option.bind (g_X12_readBoth M a0 p1) (fun q2 => Option.bind (loopO (σ := Mem) (ρ := Mem) (fun s7 => Option.bind (f_X12_takes0 s7 a0 4) (fun q16 => if q16.2 = 0 then (some (.inr q16.1)) else (Option.bind (g_X12_readBoth q16.1 a0 p1) (fun q21 => some (.inl q21))))) q2) (fun (x14 : Mem) => some x14)))
set_option maxRecDepth 100000 in
set_option maxHeartbeats 8000000 in
theorem t_X12_readTest {d : Nat} {g_X12_readBoth : Mem → Nat → Int32 → Option Mem} {l : Launch} {G : Gh} {M : Mem} {a0 : Nat} {p1 : Int32} {q : Mem} (hg_X12_readBoth : ∀ X : Ctx, xG X = G → xl X = l → ∀ (M : Mem) (a0 : Nat) (p1 : Int32) (q : Mem), g_X12_readBoth M a0 p1 = some q → Ctr (xl X) (xG X) yX12_readBoth (Y_X12_readBoth d) M [.ref (gh (xG X) + a0), .int p1] q (none)) (h : b_X12_readTest g_X12_readBoth M a0 p1 = some q) : Ctr l G yX12_readTest (Y_X12_readTest (d + 1)) M [.ref (gh G + a0), .int p1] q (none) := by
  refine Ctr.of (Y := (Y_X12_readTest (d + 1))) (L := [some (.ref (gh G + a0)), some (.int p1)]) (t := Option.bind (b_X12_readTest g_X12_readBoth M a0 p1) (fun q => some (q, (none : Option Value)))) (by decide) rfl rfl (nle rfl) (Lof_in 0 _ rfl) (fun X hG hl => ?_) (by rw [h]; rfl)
  subst hG
  subst hl
  unfold b_X12_readTest
  refine s_aload_n (pc := 0) 0 dX12_readTest_0 rfl rfl ?_
  refine s_iload_n (pc := 1) 1 dX12_readTest_1 rfl rfl ?_
  refine s_grd (fun o1 => ?_)
  refine s_bind (fun q2 hq3 => ?_)
  have hC4 := hg_X12_readBoth X rfl rfl M a0 p1 q2 hq3
  refine s_callV (pc := 2) (As := [.int p1]) (st := []) (nlt rfl) (q := (RX12, TX12, 59)) rfl rfl o1 cl_X12_readBoth wi_X12_readBoth wl_X12_readBoth km_X12_272 rfl rfl (Nat.le_refl _) (nle rfl) (nle rfl) dX12_readTest_2 hC4 ?_
  have h5 := hC4.1 X
  have o6 := h5.ok o1
  show S0 X _ q2 5 [some (.ref (gh (xG X) + a0)), some (.int p1)] [] _
  refine s_drop (L' := [some (.ref (gh (xG X) + a0)), some (.int p1)]) ?_ (And.intro rfl (And.intro rfl trivial))
  refine s_loop1 q2 (fun s7 : Mem => s7) (fun s7 : Mem => [some (.ref (gh (xG X) + a0)), some (.int p1)]) (fun x14 : Mem => x14) 21 (fun x14 : Mem => [none, none]) (fun x14 hx15 => ?_) (fun T9 R11 hT10 hR12 s7 hs8 => ?_) q2 Le.rf
  · show S0 X _ x14 21 [none, none] [] _
    exact s_vret rfl dX12_readTest_21
  · show S0 X _ s7 5 [some (.ref (gh (xG X) + a0)), some (.int p1)] [] _
    have o13 := hs8.ok o6
    refine s_aload_n (pc := 5) 0 dX12_readTest_5 rfl rfl ?_
    refine s_iconst (pc := 6) 4 dX12_readTest_6 kc_4 ?_
    refine s_bind (fun q16 hq17 => ?_)
    have hC18 := t_X12_takes0 (l := xl X) (G := xG X) hq17
    refine s_callV (pc := 7) (As := [.int 4]) (st := []) (nlt rfl) (q := (RX12, TX12, 59)) rfl rfl o13 cl_X12_takes0 wi_X12_takes0 wl_X12_takes0 km_X12_240 rfl rfl (Nat.le_trans (nle rfl : _ ≤ 105) (Nat.le_add_right 105 _)) (nle rfl) (nle rfl) dX12_readTest_7 hC18 ?_
    have h19 := hC18.1 X
    have o20 := h19.ok o13
    show S0 X _ q16.1 10 [some (.ref (gh (xG X) + a0)), some (.int p1)] [.int q16.2] _
    refine s_ifeq (pc := 10) 21 dX12_readTest_10 rfl ?_ ?_
    · exact s_drop (hR12 q16.1 (hs8.tr h19)) trivial
    · refine s_aload_n (pc := 13) 0 dX12_readTest_13 rfl rfl ?_
      refine s_iload_n (pc := 14) 1 dX12_readTest_14 rfl rfl ?_
      refine s_bind (fun q21 hq22 => ?_)
      have hC23 := hg_X12_readBoth X rfl rfl q16.1 a0 p1 q21 hq22
      refine s_callV (pc := 15) (As := [.int p1]) (st := []) (nlt rfl) (q := (RX12, TX12, 59)) rfl rfl o20 cl_X12_readBoth wi_X12_readBoth wl_X12_readBoth km_X12_272 rfl rfl (Nat.le_refl _) (nle rfl) (nle rfl) dX12_readTest_15 hC23 ?_
      have h24 := hC23.1 X
      have o25 := h24.ok o20
      show S0 X _ q21 18 [some (.ref (gh (xG X) + a0)), some (.int p1)] [] _
      refine s_goto (pc := 18) 5 dX12_readTest_18 rfl ?_
      exact s_drop (hT10 q21 (hs8.tr (h19.tr h24))) (And.intro rfl (And.intro rfl trivial))
noncomputable def G_X12_readBoth : Nat → (Mem → Nat → Int32 → Option Mem) × (Mem → Nat → Int32 → Option Mem) × (Mem → Nat → Int32 → Option Mem)
  | 0 => ((fun _ _ _ => none), (fun _ _ _ => none), (fun _ _ _ => none))
  | d + 1 => (b_X12_readBoth ((G_X12_readBoth d).2.1), b_X12_readPlain ((G_X12_readBoth d).2.2), b_X12_readTest ((G_X12_readBoth d).1))
noncomputable def f_X12_readBoth (d : Nat) : Mem → Nat → Int32 → Option Mem := (G_X12_readBoth d).1
noncomputable def f_X12_readPlain (d : Nat) : Mem → Nat → Int32 → Option Mem := (G_X12_readBoth d).2.1
noncomputable def f_X12_readTest (d : Nat) : Mem → Nat → Int32 → Option Mem := (G_X12_readBoth d).2.2
set_option maxRecDepth 100000 in
theorem tg_X12_readBoth {l : Launch} {G : Gh} : ∀ d : Nat, (∀ (M : Mem) (a0 : Nat) (p1 : Int32) (q : Mem), f_X12_readBoth d M a0 p1 = some q → Ctr l G yX12_readBoth (Y_X12_readBoth d) M [.ref (gh G + a0), .int p1] q (none)) ∧ (∀ (M : Mem) (a0 : Nat) (p1 : Int32) (q : Mem), f_X12_readPlain d M a0 p1 = some q → Ctr l G yX12_readPlain (Y_X12_readPlain d) M [.ref (gh G + a0), .int p1] q (none)) ∧ (∀ (M : Mem) (a0 : Nat) (p1 : Int32) (q : Mem), f_X12_readTest d M a0 p1 = some q → Ctr l G yX12_readTest (Y_X12_readTest d) M [.ref (gh G + a0), .int p1] q (none)) := by
  intro d
  induction d with
  | zero => refine ⟨?_, ?_, ?_⟩ <;> (intros; rename_i h; cases h)
  | succ d ih =>
    obtain ⟨h0, h1, h2⟩ := ih
    refine ⟨?_, ?_, ?_⟩
    · intro M a0 p1 q h
      exact t_X12_readBoth (fun X hG hl => by subst hG; subst hl; exact h1) h
    · intro M a0 p1 q h
      exact t_X12_readPlain (fun X hG hl => by subst hG; subst hl; exact h2) h
    · intro M a0 p1 q h
      exact t_X12_readTest (fun X hG hl => by subst hG; subst hl; exact h0) h
set_option maxRecDepth 100000 in
theorem tf_X12_readBoth {l : Launch} {G : Gh} {M : Mem} {a0 : Nat} {p1 : Int32} {q : Mem} (h : f_X12_readBoth 100 M a0 p1 = some q) : Ctr l G yX12_readBoth (Y_X12_readBoth 100) M [.ref (gh G + a0), .int p1] q (none) := (tg_X12_readBoth 100).1 _ _ _ _ h
set_option maxRecDepth 100000 in
theorem tf_X12_readPlain {l : Launch} {G : Gh} {M : Mem} {a0 : Nat} {p1 : Int32} {q : Mem} (h : f_X12_readPlain 100 M a0 p1 = some q) : Ctr l G yX12_readPlain (Y_X12_readPlain 100) M [.ref (gh G + a0), .int p1] q (none) := (tg_X12_readBoth 100).2.1 _ _ _ _ h
set_option maxRecDepth 100000 in
theorem tf_X12_readTest {l : Launch} {G : Gh} {M : Mem} {a0 : Nat} {p1 : Int32} {q : Mem} (h : f_X12_readTest 100 M a0 p1 = some q) : Ctr l G yX12_readTest (Y_X12_readTest 100) M [.ref (gh G + a0), .int p1] q (none) := (tg_X12_readBoth 100).2.2 _ _ _ _ h
abbrev Y_X7_both (d : Nat) : Sta := (RX7, "both", cX7_both, 4, (some .boolean), 105 + d)
abbrev Y_X7_inRound (d : Nat) : Sta := (RX7, "inRound", cX7_inRound, 2, (some .boolean), 105 + d)
abbrev Y_X7_plain (d : Nat) : Sta := (RX7, "plain", cX7_plain, 4, (some .boolean), 105 + d)
abbrev Y_X7_test (d : Nat) : Sta := (RX7, "test", cX7_test, 4, (some .boolean), 105 + d)
