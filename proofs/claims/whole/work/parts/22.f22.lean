noncomputable def b_X12_readBoth (g_X12_readPlain : Mem → Nat → Int32 → Option Mem) (M : Mem) (a0 : Nat) (x1 : Int32) : Option Mem :=
  grd (okO M 12 a0) (Option.bind (g_X12_readPlain M a0 x1) (fun q2 => Option.bind (loopO (σ := Mem) (ρ := Mem) (fun s7 => Option.bind (f_X12_takes0 s7 a0 5) (fun q16 => if q16.2 = 0 then (some (.inr q16.1)) else (Option.bind (g_X12_readPlain q16.1 a0 x1) (fun q21 => some (.inl q21))))) q2) (fun (x14 : Mem) => some x14)))
abbrev Y_X12_readBoth (d : Nat) : Sta := (RX12, "readBoth", cX12_readBoth, 2, none, 5 + d)
set_option maxRecDepth 100000 in
set_option maxHeartbeats 8000000 in
theorem t_X12_readBoth {d : Nat} {g_X12_readPlain : Mem → Nat → Int32 → Option Mem} {l : Launch} {G : Gh} {M : Mem} {a0 : Nat} {x1 : Int32} {q : Mem} (hg_X12_readPlain : ∀ X : Ctx, xG X = G → xl X = l → ∀ (M : Mem) (a0 : Nat) (x1 : Int32) (q : Mem), g_X12_readPlain M a0 x1 = some q → Ctr (xl X) (xG X) yX12_readPlain (Y_X12_readPlain d) M [.ref (gh (xG X) + a0), .int x1] q (none)) (h : b_X12_readBoth g_X12_readPlain M a0 x1 = some q) : Ctr l G yX12_readBoth (Y_X12_readBoth (d + 1)) M [.ref (gh G + a0), .int x1] q (none) := by
  refine Ctr.of (Y := (Y_X12_readBoth (d + 1))) (L := [some (.ref (gh G + a0)), some (.int x1)]) (t := Option.bind (b_X12_readBoth g_X12_readPlain M a0 x1) (fun q => some (q, (none : Option Value)))) (by decide) rfl rfl (nle rfl) (Lof_in 0 _ rfl) (fun X hG hl => ?_) (by rw [h]; rfl)
  subst hG
  subst hl
  unfold b_X12_readBoth
  refine s_aload_n (pc := 0) 0 dX12_readBoth_0 rfl rfl ?_
  refine s_iload_n (pc := 1) 1 dX12_readBoth_1 rfl rfl ?_
  refine s_grd (fun o1 => ?_)
  refine s_bind (fun q2 hq3 => ?_)
  have hC4 := hg_X12_readPlain X rfl rfl M a0 x1 q2 hq3
  refine s_callV (pc := 2) (As := [.int x1]) (st := []) (nlt rfl) (q := (RX12, TX12, 59)) rfl rfl o1 cl_X12_readPlain wi_X12_readPlain wl_X12_readPlain km_X12_275 rfl rfl (Nat.le_refl _) (nle rfl) (nle rfl) dX12_readBoth_2 hC4 ?_
  have h5 := hC4.1 X
  have o6 := h5.ok o1
  show S0 X _ q2 5 [some (.ref (gh (xG X) + a0)), some (.int x1)] [] _
  refine s_drop (L' := [some (.ref (gh (xG X) + a0)), some (.int x1)]) ?_ (And.intro rfl (And.intro rfl trivial))
  refine s_loop1 q2 (fun s7 : Mem => s7) (fun s7 : Mem => [some (.ref (gh (xG X) + a0)), some (.int x1)]) (fun x14 : Mem => x14) 21 (fun x14 : Mem => [none, none]) (fun x14 hx15 => ?_) (fun T9 R11 hT10 hR12 s7 hs8 => ?_) q2 Le.rf
  · show S0 X _ x14 21 [none, none] [] _
    exact s_vret rfl dX12_readBoth_21
  · show S0 X _ s7 5 [some (.ref (gh (xG X) + a0)), some (.int x1)] [] _
    have o13 := hs8.ok o6
    refine s_aload_n (pc := 5) 0 dX12_readBoth_5 rfl rfl ?_
    refine s_iconst (pc := 6) 5 dX12_readBoth_6 kc_5 ?_
    refine s_bind (fun q16 hq17 => ?_)
    have hC18 := t_X12_takes0 (l := xl X) (G := xG X) hq17
    refine s_callV (pc := 7) (As := [.int 5]) (st := []) (nlt rfl) (q := (RX12, TX12, 59)) rfl rfl o13 cl_X12_takes0 wi_X12_takes0 wl_X12_takes0 km_X12_240 rfl rfl (Nat.le_trans (nle rfl : _ ≤ 5) (Nat.le_add_right 5 _)) (nle rfl) (nle rfl) dX12_readBoth_7 hC18 ?_
    have h19 := hC18.1 X
    have o20 := h19.ok o13
    show S0 X _ q16.1 10 [some (.ref (gh (xG X) + a0)), some (.int x1)] [.int q16.2] _
    refine s_ifeq (pc := 10) 21 dX12_readBoth_10 rfl ?_ ?_
    · exact s_drop (hR12 q16.1 (hs8.tr h19)) trivial
    · refine s_aload_n (pc := 13) 0 dX12_readBoth_13 rfl rfl ?_
      refine s_iload_n (pc := 14) 1 dX12_readBoth_14 rfl rfl ?_
      refine s_bind (fun q21 hq22 => ?_)
      have hC23 := hg_X12_readPlain X rfl rfl q16.1 a0 x1 q21 hq22
      refine s_callV (pc := 15) (As := [.int x1]) (st := []) (nlt rfl) (q := (RX12, TX12, 59)) rfl rfl o20 cl_X12_readPlain wi_X12_readPlain wl_X12_readPlain km_X12_275 rfl rfl (Nat.le_refl _) (nle rfl) (nle rfl) dX12_readBoth_15 hC23 ?_
      have h24 := hC23.1 X
      have o25 := h24.ok o20
      show S0 X _ q21 18 [some (.ref (gh (xG X) + a0)), some (.int x1)] [] _
      refine s_goto (pc := 18) 5 dX12_readBoth_18 rfl ?_
      exact s_drop (hT10 q21 (hs8.tr (h19.tr h24))) (And.intro rfl (And.intro rfl trivial))
noncomputable def b_X12_readPlain (g_X12_readTest : Mem → Nat → Int32 → Option Mem) (M : Mem) (a0 : Nat) (x1 : Int32) : Option Mem :=
  Option.bind (loopO (σ := Mem × Int32) (ρ := Mem) (fun s1 => if s1.2 = 0 then (some (.inr s1.1)) else (grd (okO s1.1 12 a0) (Option.bind (f_X12_takes0 s1.1 a0 6) (fun q10 => some (.inl (q10.1, q10.2)))))) (M, 1)) (fun (x7 : Mem) => grd (okO x7 12 a0) (Option.bind (f_X12_fine x7 a0) (fun q16 => if q16 = 0 then (some x7) else (Option.bind (mR x7 a0 19) (fun r19 => grd (okO x7 14 r19) (grd (vp_in (mI x7 a0 23) (mL x7 r19)) (bv (mI x7 r19 (mI x7 a0 23).toNatClampNeg : Int32) (fun x22 => Option.bind (f_X12_sign 40) (fun q23 => if x22 = q23 then (bv (fun (s66 : Mem) => Option.bind (f_X12_fine s66 a0) (fun q70 => if q70 = 0 then (some s66) else (bv (wI s66 a0 23 ((mI s66 a0 23) + 1)) (fun M73 => Option.bind (g_X12_readTest M73 a0 (x1 + 1)) (fun q77 => Option.bind (f_X12_sign 41) (fun q82 => Option.bind (f_X12_must q77 a0 q82) (fun q85 => some q85))))))) (fun j65 => if x1 = 8 then (Option.bind (f_X12_faults x7 a0) (fun q90 => j65 q90)) else (j65 x7))) else (Option.bind (f_X12_readSum 100 x7 a0 x1) (fun q26 => Option.bind (f_X12_sign 60) (fun q31 => Option.bind (f_X12_takes0 q26 a0 q31) (fun q34 => bv (fun (s40 : Mem) => Option.bind (f_X12_readSum 100 s40 a0 x1) (fun q44 => some q44)) (fun j39 => if q34.2 = 0 then (Option.bind (f_X12_sign 62) (fun q49 => Option.bind (f_X12_takes0 q34.1 a0 q49) (fun q52 => if q52.2 = 0 then (Option.bind (f_X12_sign 61) (fun q57 => Option.bind (f_X12_must q52.1 a0 q57) (fun q60 => j39 q60))) else (j39 q52.1)))) else (j39 q34.1)))))))))))))))
abbrev Y_X12_readPlain (d : Nat) : Sta := (RX12, "readPlain", cX12_readPlain, 4, none, 5 + d)
set_option maxRecDepth 100000 in
set_option maxHeartbeats 8000000 in
theorem t_X12_readPlain {d : Nat} {g_X12_readTest : Mem → Nat → Int32 → Option Mem} {l : Launch} {G : Gh} {M : Mem} {a0 : Nat} {x1 : Int32} {q : Mem} (hg_X12_readTest : ∀ X : Ctx, xG X = G → xl X = l → ∀ (M : Mem) (a0 : Nat) (x1 : Int32) (q : Mem), g_X12_readTest M a0 x1 = some q → Ctr (xl X) (xG X) yX12_readTest (Y_X12_readTest d) M [.ref (gh (xG X) + a0), .int x1] q (none)) (h : b_X12_readPlain g_X12_readTest M a0 x1 = some q) : Ctr l G yX12_readPlain (Y_X12_readPlain (d + 1)) M [.ref (gh G + a0), .int x1] q (none) := by
  refine Ctr.of (Y := (Y_X12_readPlain (d + 1))) (L := [some (.ref (gh G + a0)), some (.int x1), none, none]) (t := Option.bind (b_X12_readPlain g_X12_readTest M a0 x1) (fun q => some (q, (none : Option Value)))) (by decide) rfl rfl (nle rfl) (Lof_in 2 _ rfl) (fun X hG hl => ?_) (by rw [h]; rfl)
  subst hG
  subst hl
  unfold b_X12_readPlain
  refine s_iconst (pc := 0) 1 dX12_readPlain_0 kc_1 ?_
  refine s_istore_n (pc := 1) 2 dX12_readPlain_1 rfl (nlt rfl) rfl (L' := [some (.ref (gh (xG X) + a0)), some (.int x1), some (.int 1), none]) rfl ?_
  refine s_drop (L' := [some (.ref (gh (xG X) + a0)), some (.int x1), some (.int 1), none]) ?_ (And.intro rfl (And.intro rfl (And.intro rfl trivial)))
  refine s_loop1 M (fun s1 : Mem × Int32 => s1.1) (fun s1 : Mem × Int32 => [some (.ref (gh (xG X) + a0)), some (.int x1), some (.int s1.2), none]) (fun x7 : Mem => x7) 16 (fun x7 : Mem => [some (.ref (gh (xG X) + a0)), some (.int x1), none, none]) (fun x7 hx8 => ?_) (fun T3 R5 hT4 hR6 s1 hs2 => ?_) (M, 1) Le.rf
  · show S0 X _ x7 16 [some (.ref (gh (xG X) + a0)), some (.int x1), none, none] [] _
    refine s_aload_n (pc := 16) 0 dX12_readPlain_16 rfl rfl ?_
    refine s_grd (fun o15 => ?_)
    refine s_bind (fun q16 hq17 => ?_)
    have hC18 := t_X12_fine (l := xl X) (G := xG X) hq17
    refine s_callV (pc := 17) (As := []) (st := []) (nlt rfl) (q := (RX12, TX12, 59)) rfl rfl o15 cl_X12_fine wi_X12_fine wl_X12_fine km_X12_233 rfl rfl (Nat.le_trans (nle rfl : _ ≤ 5) (Nat.le_add_right 5 _)) (nle rfl) (nle rfl) dX12_readPlain_17 hC18 ?_
    show S0 X _ x7 20 [some (.ref (gh (xG X) + a0)), some (.int x1), none, none] [.int q16] _
    refine s_ifne (pc := 20) 24 dX12_readPlain_20 rfl ?_ ?_
    · refine s_aload_n (pc := 24) 0 dX12_readPlain_24 rfl rfl ?_
      refine s_geto (pc := 25) F_12 19 rfl o15 dX12_readPlain_25 kf_X12_52 ?_
      refine s_rvB (fun r19 => ?_)
      refine s_aload_n (pc := 28) 0 dX12_readPlain_28 rfl rfl ?_
      refine s_geti (pc := 29) F_12 23 rfl o15 dX12_readPlain_29 kf_X12_237 ?_
      refine s_grd (fun o20 => ?_)
      refine s_grd (fun i21 => ?_)
      refine s_iald (pc := 32) o20 i21 dX12_readPlain_32 ?_
      refine s_istore_n (pc := 33) 3 dX12_readPlain_33 rfl (nlt rfl) rfl (L' := [some (.ref (gh (xG X) + a0)), some (.int x1), none, some (.int (mI x7 r19 (mI x7 a0 23).toNatClampNeg))]) rfl ?_
      refine s_bv (fun x22 : Int32 => [some (.ref (gh (xG X) + a0)), some (.int x1), none, some (.int x22)]) (fun x22 => ?_) rfl
      refine s_iload_n (pc := 34) 3 dX12_readPlain_34 rfl rfl ?_
      refine s_bipush (pc := 35) 40 dX12_readPlain_35 kb_40 ?_
      refine s_bind (fun q23 hq24 => ?_)
      have hC25 := t_X12_sign (l := xl X) (G := xG X) (M := x7) hq24
      refine s_callS (pc := 37) (As := [.int 40]) (st := [.int x22]) cl_X12_sign wt_X12_sign km_X12_278 rfl rfl (Nat.le_trans (nle rfl : _ ≤ 5) (Nat.le_add_right 5 _)) (nle rfl) (nle rfl) dX12_readPlain_37 hC25 ?_
      show S0 X _ x7 40 [some (.ref (gh (xG X) + a0)), some (.int x1), none, some (.int x22)] [.int q23, .int x22] _
      refine s_icne (pc := 40) 90 dX12_readPlain_40 rfl ?_ ?_
      · refine s_aload_n (pc := 90) 0 dX12_readPlain_90 rfl rfl ?_
        refine s_iload_n (pc := 91) 1 dX12_readPlain_91 rfl rfl ?_
        refine s_bind (fun q26 hq27 => ?_)
        have hC28 := tf_X12_readSum (l := xl X) (G := xG X) hq27
        refine s_callV (pc := 92) (As := [.int x1]) (st := []) (nlt rfl) (q := (RX12, TX12, 59)) rfl rfl o15 cl_X12_readSum wi_X12_readSum wl_X12_readSum km_X12_253 rfl rfl (Nat.le_trans (nle rfl : _ ≤ 5) (Nat.le_add_right 5 _)) (nle rfl) (nle rfl) dX12_readPlain_92 hC28 ?_
        have h29 := hC28.1 X
        have o30 := h29.ok o15
        show S0 X _ q26 95 [some (.ref (gh (xG X) + a0)), some (.int x1), none, some (.int x22)] [] _
        refine s_aload_n (pc := 95) 0 dX12_readPlain_95 rfl rfl ?_
        refine s_bipush (pc := 96) 60 dX12_readPlain_96 kb_60 ?_
        refine s_bind (fun q31 hq32 => ?_)
        have hC33 := t_X12_sign (l := xl X) (G := xG X) (M := q26) hq32
        refine s_callS (pc := 98) (As := [.int 60]) (st := [.ref (gh (xG X) + a0)]) cl_X12_sign wt_X12_sign km_X12_278 rfl rfl (Nat.le_trans (nle rfl : _ ≤ 5) (Nat.le_add_right 5 _)) (nle rfl) (nle rfl) dX12_readPlain_98 hC33 ?_
        show S0 X _ q26 101 [some (.ref (gh (xG X) + a0)), some (.int x1), none, some (.int x22)] [.int q31, .ref (gh (xG X) + a0)] _
        refine s_bind (fun q34 hq35 => ?_)
        have hC36 := t_X12_takes0 (l := xl X) (G := xG X) hq35
        refine s_callV (pc := 101) (As := [.int q31]) (st := []) (nlt rfl) (q := (RX12, TX12, 59)) rfl rfl o30 cl_X12_takes0 wi_X12_takes0 wl_X12_takes0 km_X12_240 rfl rfl (Nat.le_trans (nle rfl : _ ≤ 5) (Nat.le_add_right 5 _)) (nle rfl) (nle rfl) dX12_readPlain_101 hC36 ?_
        have h37 := hC36.1 X
        have o38 := h37.ok o30
        show S0 X _ q34.1 104 [some (.ref (gh (xG X) + a0)), some (.int x1), none, some (.int x22)] [.int q34.2] _
        refine s_join q34.1 (fun s40 : Mem => s40) 128 (fun s40 : Mem => [some (.ref (gh (xG X) + a0)), some (.int x1), none, none]) (fun s40 : Mem => []) (fun s40 hs41 => ?_) (fun j39 hj42 => ?_)
        · show S0 X _ s40 128 [some (.ref (gh (xG X) + a0)), some (.int x1), none, none] [] _
          have o43 := hs41.ok o38
          refine s_aload_n (pc := 128) 0 dX12_readPlain_128 rfl rfl ?_
          refine s_iload_n (pc := 129) 1 dX12_readPlain_129 rfl rfl ?_
          refine s_bind (fun q44 hq45 => ?_)
          have hC46 := tf_X12_readSum (l := xl X) (G := xG X) hq45
          refine s_callV (pc := 130) (As := [.int x1]) (st := []) (nlt rfl) (q := (RX12, TX12, 59)) rfl rfl o43 cl_X12_readSum wi_X12_readSum wl_X12_readSum km_X12_253 rfl rfl (Nat.le_trans (nle rfl : _ ≤ 5) (Nat.le_add_right 5 _)) (nle rfl) (nle rfl) dX12_readPlain_130 hC46 ?_
          have h47 := hC46.1 X
          have o48 := h47.ok o43
          show S0 X _ q44 133 [some (.ref (gh (xG X) + a0)), some (.int x1), none, none] [] _
          exact s_vret rfl dX12_readPlain_133
        · refine s_ifne (pc := 104) 128 dX12_readPlain_104 rfl ?_ ?_
          · exact s_drop (hj42 q34.1 Le.rf) (And.intro rfl (And.intro rfl trivial))
          · refine s_aload_n (pc := 107) 0 dX12_readPlain_107 rfl rfl ?_
            refine s_bipush (pc := 108) 62 dX12_readPlain_108 kb_62 ?_
            refine s_bind (fun q49 hq50 => ?_)
            have hC51 := t_X12_sign (l := xl X) (G := xG X) (M := q34.1) hq50
            refine s_callS (pc := 110) (As := [.int 62]) (st := [.ref (gh (xG X) + a0)]) cl_X12_sign wt_X12_sign km_X12_278 rfl rfl (Nat.le_trans (nle rfl : _ ≤ 5) (Nat.le_add_right 5 _)) (nle rfl) (nle rfl) dX12_readPlain_110 hC51 ?_
            show S0 X _ q34.1 113 [some (.ref (gh (xG X) + a0)), some (.int x1), none, some (.int x22)] [.int q49, .ref (gh (xG X) + a0)] _
            refine s_bind (fun q52 hq53 => ?_)
            have hC54 := t_X12_takes0 (l := xl X) (G := xG X) hq53
            refine s_callV (pc := 113) (As := [.int q49]) (st := []) (nlt rfl) (q := (RX12, TX12, 59)) rfl rfl o38 cl_X12_takes0 wi_X12_takes0 wl_X12_takes0 km_X12_240 rfl rfl (Nat.le_trans (nle rfl : _ ≤ 5) (Nat.le_add_right 5 _)) (nle rfl) (nle rfl) dX12_readPlain_113 hC54 ?_
            have h55 := hC54.1 X
            have o56 := h55.ok o38
            show S0 X _ q52.1 116 [some (.ref (gh (xG X) + a0)), some (.int x1), none, some (.int x22)] [.int q52.2] _
            refine s_ifne (pc := 116) 128 dX12_readPlain_116 rfl ?_ ?_
            · exact s_drop (hj42 q52.1 h55) (And.intro rfl (And.intro rfl trivial))
            · refine s_aload_n (pc := 119) 0 dX12_readPlain_119 rfl rfl ?_
              refine s_bipush (pc := 120) 61 dX12_readPlain_120 kb_61 ?_
              refine s_bind (fun q57 hq58 => ?_)
              have hC59 := t_X12_sign (l := xl X) (G := xG X) (M := q52.1) hq58
              refine s_callS (pc := 122) (As := [.int 61]) (st := [.ref (gh (xG X) + a0)]) cl_X12_sign wt_X12_sign km_X12_278 rfl rfl (Nat.le_trans (nle rfl : _ ≤ 5) (Nat.le_add_right 5 _)) (nle rfl) (nle rfl) dX12_readPlain_122 hC59 ?_
              show S0 X _ q52.1 125 [some (.ref (gh (xG X) + a0)), some (.int x1), none, some (.int x22)] [.int q57, .ref (gh (xG X) + a0)] _
              refine s_bind (fun q60 hq61 => ?_)
              have hC62 := t_X12_must (l := xl X) (G := xG X) hq61
              refine s_callV (pc := 125) (As := [.int q57]) (st := []) (nlt rfl) (q := (RX12, TX12, 59)) rfl rfl o56 cl_X12_must wi_X12_must wl_X12_must km_X12_256 rfl rfl (Nat.le_trans (nle rfl : _ ≤ 5) (Nat.le_add_right 5 _)) (nle rfl) (nle rfl) dX12_readPlain_125 hC62 ?_
              have h63 := hC62.1 X
              have o64 := h63.ok o56
              show S0 X _ q60 128 [some (.ref (gh (xG X) + a0)), some (.int x1), none, some (.int x22)] [] _
              exact s_drop (hj42 q60 (h55.tr h63)) (And.intro rfl (And.intro rfl trivial))
      · refine s_iload_n (pc := 43) 1 dX12_readPlain_43 rfl rfl ?_
        refine s_bipush (pc := 44) 8 dX12_readPlain_44 kb_8 ?_
        refine s_join x7 (fun s66 : Mem => s66) 53 (fun s66 : Mem => [some (.ref (gh (xG X) + a0)), some (.int x1), none, none]) (fun s66 : Mem => []) (fun s66 hs67 => ?_) (fun j65 hj68 => ?_)
        · show S0 X _ s66 53 [some (.ref (gh (xG X) + a0)), some (.int x1), none, none] [] _
          have o69 := hs67.ok o15
          refine s_aload_n (pc := 53) 0 dX12_readPlain_53 rfl rfl ?_
          refine s_bind (fun q70 hq71 => ?_)
          have hC72 := t_X12_fine (l := xl X) (G := xG X) hq71
          refine s_callV (pc := 54) (As := []) (st := []) (nlt rfl) (q := (RX12, TX12, 59)) rfl rfl o69 cl_X12_fine wi_X12_fine wl_X12_fine km_X12_233 rfl rfl (Nat.le_trans (nle rfl : _ ≤ 5) (Nat.le_add_right 5 _)) (nle rfl) (nle rfl) dX12_readPlain_54 hC72 ?_
          show S0 X _ s66 57 [some (.ref (gh (xG X) + a0)), some (.int x1), none, none] [.int q70] _
          refine s_ifne (pc := 57) 61 dX12_readPlain_57 rfl ?_ ?_
          · refine s_aload_n (pc := 61) 0 dX12_readPlain_61 rfl rfl ?_
            refine s_dup (pc := 62) dX12_readPlain_62 rfl ?_
            refine s_geti (pc := 63) F_12 23 rfl o69 dX12_readPlain_63 kf_X12_237 ?_
            refine s_iconst (pc := 66) 1 dX12_readPlain_66 kc_1 ?_
            refine s_iadd (pc := 67) dX12_readPlain_67 ?_
            refine s_puti (pc := 68) F_12 23 rfl o69 rfl rfl rfl dX12_readPlain_68 kf_X12_237 (fun M73 hM74 => ?_)
            have h75 := le_wI hM74
            have o76 := h75.ok o69
            refine s_aload_n (pc := 71) 0 dX12_readPlain_71 rfl rfl ?_
            refine s_iload_n (pc := 72) 1 dX12_readPlain_72 rfl rfl ?_
            refine s_iconst (pc := 73) 1 dX12_readPlain_73 kc_1 ?_
            refine s_iadd (pc := 74) dX12_readPlain_74 ?_
            refine s_bind (fun q77 hq78 => ?_)
            have hC79 := hg_X12_readTest X rfl rfl M73 a0 (x1 + 1) q77 hq78
            refine s_callV (pc := 75) (As := [.int (x1 + 1)]) (st := []) (nlt rfl) (q := (RX12, TX12, 59)) rfl rfl o76 cl_X12_readTest wi_X12_readTest wl_X12_readTest km_X12_259 rfl rfl (Nat.le_refl _) (nle rfl) (nle rfl) dX12_readPlain_75 hC79 ?_
            have h80 := hC79.1 X
            have o81 := h80.ok o76
            show S0 X _ q77 78 [some (.ref (gh (xG X) + a0)), some (.int x1), none, none] [] _
            refine s_aload_n (pc := 78) 0 dX12_readPlain_78 rfl rfl ?_
            refine s_bipush (pc := 79) 41 dX12_readPlain_79 kb_41 ?_
            refine s_bind (fun q82 hq83 => ?_)
            have hC84 := t_X12_sign (l := xl X) (G := xG X) (M := q77) hq83
            refine s_callS (pc := 81) (As := [.int 41]) (st := [.ref (gh (xG X) + a0)]) cl_X12_sign wt_X12_sign km_X12_278 rfl rfl (Nat.le_trans (nle rfl : _ ≤ 5) (Nat.le_add_right 5 _)) (nle rfl) (nle rfl) dX12_readPlain_81 hC84 ?_
            show S0 X _ q77 84 [some (.ref (gh (xG X) + a0)), some (.int x1), none, none] [.int q82, .ref (gh (xG X) + a0)] _
            refine s_bind (fun q85 hq86 => ?_)
            have hC87 := t_X12_must (l := xl X) (G := xG X) hq86
            refine s_callV (pc := 84) (As := [.int q82]) (st := []) (nlt rfl) (q := (RX12, TX12, 59)) rfl rfl o81 cl_X12_must wi_X12_must wl_X12_must km_X12_256 rfl rfl (Nat.le_trans (nle rfl : _ ≤ 5) (Nat.le_add_right 5 _)) (nle rfl) (nle rfl) dX12_readPlain_84 hC87 ?_
            have h88 := hC87.1 X
            have o89 := h88.ok o81
            show S0 X _ q85 87 [some (.ref (gh (xG X) + a0)), some (.int x1), none, none] [] _
            refine s_goto (pc := 87) 133 dX12_readPlain_87 rfl ?_
            exact s_vret rfl dX12_readPlain_133
          · exact s_vret rfl dX12_readPlain_60
        · refine s_icne (pc := 46) 53 dX12_readPlain_46 rfl ?_ ?_
          · exact s_drop (hj68 x7 Le.rf) (And.intro rfl (And.intro rfl trivial))
          · refine s_aload_n (pc := 49) 0 dX12_readPlain_49 rfl rfl ?_
            refine s_bind (fun q90 hq91 => ?_)
            have hC92 := t_X12_faults (l := xl X) (G := xG X) hq91
            refine s_callV (pc := 50) (As := []) (st := []) (nlt rfl) (q := (RX12, TX12, 59)) rfl rfl o15 cl_X12_faults wi_X12_faults wl_X12_faults km_X12_243 rfl rfl (Nat.le_trans (nle rfl : _ ≤ 5) (Nat.le_add_right 5 _)) (nle rfl) (nle rfl) dX12_readPlain_50 hC92 ?_
            have h93 := hC92.1 X
            have o94 := h93.ok o15
            show S0 X _ q90 53 [some (.ref (gh (xG X) + a0)), some (.int x1), none, some (.int x22)] [] _
            exact s_drop (hj68 q90 h93) (And.intro rfl (And.intro rfl trivial))
    · exact s_vret rfl dX12_readPlain_23
  · show S0 X _ s1.1 2 [some (.ref (gh (xG X) + a0)), some (.int x1), some (.int s1.2), none] [] _
    refine s_iload_n (pc := 2) 2 dX12_readPlain_2 rfl rfl ?_
    refine s_ifeq (pc := 3) 16 dX12_readPlain_3 rfl ?_ ?_
    · exact s_drop (hR6 s1.1 hs2) (And.intro rfl (And.intro rfl trivial))
    · refine s_aload_n (pc := 6) 0 dX12_readPlain_6 rfl rfl ?_
      refine s_bipush (pc := 7) 6 dX12_readPlain_7 kb_6 ?_
      refine s_grd (fun o9 => ?_)
      refine s_bind (fun q10 hq11 => ?_)
      have hC12 := t_X12_takes0 (l := xl X) (G := xG X) hq11
      refine s_callV (pc := 9) (As := [.int 6]) (st := []) (nlt rfl) (q := (RX12, TX12, 59)) rfl rfl o9 cl_X12_takes0 wi_X12_takes0 wl_X12_takes0 km_X12_240 rfl rfl (Nat.le_trans (nle rfl : _ ≤ 5) (Nat.le_add_right 5 _)) (nle rfl) (nle rfl) dX12_readPlain_9 hC12 ?_
      have h13 := hC12.1 X
      have o14 := h13.ok o9
      show S0 X _ q10.1 12 [some (.ref (gh (xG X) + a0)), some (.int x1), some (.int s1.2), none] [.int q10.2] _
      refine s_istore_n (pc := 12) 2 dX12_readPlain_12 rfl (nlt rfl) rfl (L' := [some (.ref (gh (xG X) + a0)), some (.int x1), some (.int q10.2), none]) rfl ?_
      refine s_goto (pc := 13) 2 dX12_readPlain_13 rfl ?_
      exact s_drop (hT4 (q10.1, q10.2) (hs2.tr h13)) (And.intro rfl (And.intro rfl (And.intro rfl trivial)))
noncomputable def b_X12_readTest (g_X12_readBoth : Mem → Nat → Int32 → Option Mem) (M : Mem) (a0 : Nat) (x1 : Int32) : Option Mem :=
  grd (okO M 12 a0) (Option.bind (g_X12_readBoth M a0 x1) (fun q2 => Option.bind (loopO (σ := Mem) (ρ := Mem) (fun s7 => Option.bind (f_X12_takes0 s7 a0 4) (fun q16 => if q16.2 = 0 then (some (.inr q16.1)) else (Option.bind (g_X12_readBoth q16.1 a0 x1) (fun q21 => some (.inl q21))))) q2) (fun (x14 : Mem) => some x14)))
abbrev Y_X12_readTest (d : Nat) : Sta := (RX12, "readTest", cX12_readTest, 2, none, 5 + d)
set_option maxRecDepth 100000 in
set_option maxHeartbeats 8000000 in
theorem t_X12_readTest {d : Nat} {g_X12_readBoth : Mem → Nat → Int32 → Option Mem} {l : Launch} {G : Gh} {M : Mem} {a0 : Nat} {x1 : Int32} {q : Mem} (hg_X12_readBoth : ∀ X : Ctx, xG X = G → xl X = l → ∀ (M : Mem) (a0 : Nat) (x1 : Int32) (q : Mem), g_X12_readBoth M a0 x1 = some q → Ctr (xl X) (xG X) yX12_readBoth (Y_X12_readBoth d) M [.ref (gh (xG X) + a0), .int x1] q (none)) (h : b_X12_readTest g_X12_readBoth M a0 x1 = some q) : Ctr l G yX12_readTest (Y_X12_readTest (d + 1)) M [.ref (gh G + a0), .int x1] q (none) := by
  refine Ctr.of (Y := (Y_X12_readTest (d + 1))) (L := [some (.ref (gh G + a0)), some (.int x1)]) (t := Option.bind (b_X12_readTest g_X12_readBoth M a0 x1) (fun q => some (q, (none : Option Value)))) (by decide) rfl rfl (nle rfl) (Lof_in 0 _ rfl) (fun X hG hl => ?_) (by rw [h]; rfl)
  subst hG
  subst hl
  unfold b_X12_readTest
  refine s_aload_n (pc := 0) 0 dX12_readTest_0 rfl rfl ?_
  refine s_iload_n (pc := 1) 1 dX12_readTest_1 rfl rfl ?_
  refine s_grd (fun o1 => ?_)
  refine s_bind (fun q2 hq3 => ?_)
  have hC4 := hg_X12_readBoth X rfl rfl M a0 x1 q2 hq3
  refine s_callV (pc := 2) (As := [.int x1]) (st := []) (nlt rfl) (q := (RX12, TX12, 59)) rfl rfl o1 cl_X12_readBoth wi_X12_readBoth wl_X12_readBoth km_X12_272 rfl rfl (Nat.le_refl _) (nle rfl) (nle rfl) dX12_readTest_2 hC4 ?_
  have h5 := hC4.1 X
  have o6 := h5.ok o1
  show S0 X _ q2 5 [some (.ref (gh (xG X) + a0)), some (.int x1)] [] _
  refine s_drop (L' := [some (.ref (gh (xG X) + a0)), some (.int x1)]) ?_ (And.intro rfl (And.intro rfl trivial))
  refine s_loop1 q2 (fun s7 : Mem => s7) (fun s7 : Mem => [some (.ref (gh (xG X) + a0)), some (.int x1)]) (fun x14 : Mem => x14) 21 (fun x14 : Mem => [none, none]) (fun x14 hx15 => ?_) (fun T9 R11 hT10 hR12 s7 hs8 => ?_) q2 Le.rf
  · show S0 X _ x14 21 [none, none] [] _
    exact s_vret rfl dX12_readTest_21
  · show S0 X _ s7 5 [some (.ref (gh (xG X) + a0)), some (.int x1)] [] _
    have o13 := hs8.ok o6
    refine s_aload_n (pc := 5) 0 dX12_readTest_5 rfl rfl ?_
    refine s_iconst (pc := 6) 4 dX12_readTest_6 kc_4 ?_
    refine s_bind (fun q16 hq17 => ?_)
    have hC18 := t_X12_takes0 (l := xl X) (G := xG X) hq17
    refine s_callV (pc := 7) (As := [.int 4]) (st := []) (nlt rfl) (q := (RX12, TX12, 59)) rfl rfl o13 cl_X12_takes0 wi_X12_takes0 wl_X12_takes0 km_X12_240 rfl rfl (Nat.le_trans (nle rfl : _ ≤ 5) (Nat.le_add_right 5 _)) (nle rfl) (nle rfl) dX12_readTest_7 hC18 ?_
    have h19 := hC18.1 X
    have o20 := h19.ok o13
    show S0 X _ q16.1 10 [some (.ref (gh (xG X) + a0)), some (.int x1)] [.int q16.2] _
    refine s_ifeq (pc := 10) 21 dX12_readTest_10 rfl ?_ ?_
    · exact s_drop (hR12 q16.1 (hs8.tr h19)) trivial
    · refine s_aload_n (pc := 13) 0 dX12_readTest_13 rfl rfl ?_
      refine s_iload_n (pc := 14) 1 dX12_readTest_14 rfl rfl ?_
      refine s_bind (fun q21 hq22 => ?_)
      have hC23 := hg_X12_readBoth X rfl rfl q16.1 a0 x1 q21 hq22
      refine s_callV (pc := 15) (As := [.int x1]) (st := []) (nlt rfl) (q := (RX12, TX12, 59)) rfl rfl o20 cl_X12_readBoth wi_X12_readBoth wl_X12_readBoth km_X12_272 rfl rfl (Nat.le_refl _) (nle rfl) (nle rfl) dX12_readTest_15 hC23 ?_
      have h24 := hC23.1 X
      have o25 := h24.ok o20
      show S0 X _ q21 18 [some (.ref (gh (xG X) + a0)), some (.int x1)] [] _
      refine s_goto (pc := 18) 5 dX12_readTest_18 rfl ?_
      exact s_drop (hT10 q21 (hs8.tr (h19.tr h24))) (And.intro rfl (And.intro rfl trivial))
noncomputable def G_X12_readBoth : Nat → (Mem → Nat → Int32 → Option Mem) × (Mem → Nat → Int32 → Option Mem) × (Mem → Nat → Int32 → Option Mem)
  | 0 => ((fun _ _ _ => none), (fun _ _ _ => none), (fun _ _ _ => none))
  | d + 1 => (b_X12_readBoth ((G_X12_readBoth d).2.1), b_X12_readPlain ((G_X12_readBoth d).2.2), b_X12_readTest ((G_X12_readBoth d).1))
noncomputable def f_X12_readBoth (d : Nat) : Mem → Nat → Int32 → Option Mem := (G_X12_readBoth d).1
noncomputable def f_X12_readPlain (d : Nat) : Mem → Nat → Int32 → Option Mem := (G_X12_readBoth d).2.1
noncomputable def f_X12_readTest (d : Nat) : Mem → Nat → Int32 → Option Mem := (G_X12_readBoth d).2.2
theorem tg_X12_readBoth {l : Launch} {G : Gh} : ∀ d : Nat, (∀ (M : Mem) (a0 : Nat) (x1 : Int32) (q : Mem), f_X12_readBoth d M a0 x1 = some q → Ctr l G yX12_readBoth (Y_X12_readBoth d) M [.ref (gh G + a0), .int x1] q (none)) ∧ (∀ (M : Mem) (a0 : Nat) (x1 : Int32) (q : Mem), f_X12_readPlain d M a0 x1 = some q → Ctr l G yX12_readPlain (Y_X12_readPlain d) M [.ref (gh G + a0), .int x1] q (none)) ∧ (∀ (M : Mem) (a0 : Nat) (x1 : Int32) (q : Mem), f_X12_readTest d M a0 x1 = some q → Ctr l G yX12_readTest (Y_X12_readTest d) M [.ref (gh G + a0), .int x1] q (none)) := by
  intro d
  induction d with
  | zero => refine ⟨?_, ?_, ?_⟩ <;> (intros; rename_i h; cases h)
  | succ d ih =>
    obtain ⟨h0, h1, h2⟩ := ih
    refine ⟨?_, ?_, ?_⟩
    · intro M a0 x1 q h
      exact t_X12_readBoth (fun X hG hl => by subst hG; subst hl; exact h1) h
    · intro M a0 x1 q h
      exact t_X12_readPlain (fun X hG hl => by subst hG; subst hl; exact h2) h
    · intro M a0 x1 q h
      exact t_X12_readTest (fun X hG hl => by subst hG; subst hl; exact h0) h
theorem tf_X12_readBoth {l : Launch} {G : Gh} {M : Mem} {a0 : Nat} {x1 : Int32} {q : Mem} (h : f_X12_readBoth 100 M a0 x1 = some q) : Ctr l G yX12_readBoth (Y_X12_readBoth 100) M [.ref (gh G + a0), .int x1] q (none) := (tg_X12_readBoth 100).1 _ _ _ _ h
theorem tf_X12_readPlain {l : Launch} {G : Gh} {M : Mem} {a0 : Nat} {x1 : Int32} {q : Mem} (h : f_X12_readPlain 100 M a0 x1 = some q) : Ctr l G yX12_readPlain (Y_X12_readPlain 100) M [.ref (gh G + a0), .int x1] q (none) := (tg_X12_readBoth 100).2.1 _ _ _ _ h
theorem tf_X12_readTest {l : Launch} {G : Gh} {M : Mem} {a0 : Nat} {x1 : Int32} {q : Mem} (h : f_X12_readTest 100 M a0 x1 = some q) : Ctr l G yX12_readTest (Y_X12_readTest 100) M [.ref (gh G + a0), .int x1] q (none) := (tg_X12_readBoth 100).2.2 _ _ _ _ h
noncomputable def f_X1_makes (M : Mem) (a0 : Nat) (x1 : Int32) (x2 : Int32) (x3 : Int32) : Option (Mem × Int32) :=
  bv (fun (s2 : Int32) => if s2 = (-1) then (some (M, (-1))) else (bv (fun (s6 : Int32) => grd (okO M 1 a0) (Option.bind (mR M a0 1) (fun r10 => Option.bind (mR M a0 2) (fun r11 => grd (okO M 6 r11) (Option.bind (mR M a0 2) (fun r13 => grd (okO M 6 r13) (Option.bind (mR M r13 1) (fun r15 => grd (okO M 14 r15) (grd (vp_in s6 (mL M r15)) (grd (okO M 8 r10) (Option.bind (f_X8_weightOf M r10 x1 s6 x2 (mI M r11 2) (mI M r15 s6.toNatClampNeg)) (fun q19 => bv (wI q19.1 a0 7 q19.2) (fun M24 => if (mI M24 a0 7) = (-1) then (some (M24, (-1))) else (some (M24, s2))))))))))))))) (fun j5 => if x1 = 1 then (j5 x3) else (grd (okO M 1 a0) (Option.bind (mR M a0 2) (fun r29 => grd (okO M 6 r29) (Option.bind (mR M r29 0) (fun r31 => grd (okO M 14 r31) (grd (vp_in x2 (mL M r31)) (j5 (mI M r31 x2.toNatClampNeg))))))))))) (fun j1 => swO x1 (swC 0 [(32, grd (okO M 1 a0) (Option.bind (mR M a0 2) (fun r35 => grd (okO M 6 r35) (Option.bind (f_X6_without M r35 x2) (fun q37 => j1 q37))))), (45, grd (okO M 1 a0) (Option.bind (mR M a0 2) (fun r41 => grd (okO M 6 r41) (Option.bind (f_X6_with M r41 x2 x3) (fun q43 => j1 q43))))), (59, grd (okO M 1 a0) (Option.bind (mR M a0 2) (fun r47 => grd (okO M 6 r47) (Option.bind (f_X6_swapped M r47 x2) (fun q49 => j1 q49))))), (72, grd (okO M 1 a0) (Option.bind (mR M a0 2) (fun r53 => grd (okO M 6 r53) (Option.bind (f_X6_doubled M r53 x2) (fun q55 => j1 q55)))))]) (grd (okO M 1 a0) (Option.bind (mR M a0 2) (fun r59 => grd (okO M 6 r59) (Option.bind (f_X6_hasPlace M r59 x2) (fun q61 => bv (fun (s65 : Int32) => j1 s65) (fun j64 => if q61 = 0 then (j64 (-1)) else (Option.bind (mR M a0 2) (fun r68 => Option.bind (mR M a0 0) (fun r69 => grd (okO M 10 r69) (Option.bind (mR M r69 2) (fun r71 => Option.bind (mR M a0 2) (fun r72 => grd (okO M 6 r72) (Option.bind (mR M r72 0) (fun r74 => grd (okO M 14 r74) (grd (vp_in x2 (mL M r74)) (grd (okO M 14 r71) (grd (vp_in (mI M r74 x2.toNatClampNeg) (mL M r71)) (grd (okO M 6 r68) (Option.bind (f_X6_replaced M r68 x2 (mI M r71 (mI M r74 x2.toNatClampNeg).toNatClampNeg)) (fun q80 => j64 q80)))))))))))))))))))))
abbrev Y_X1_makes : Sta := (RX1, "makes", cX1_makes, 6, (some .int), 5)
set_option maxRecDepth 100000 in
set_option maxHeartbeats 8000000 in
theorem t_X1_makes {l : Launch} {G : Gh} {M : Mem} {a0 : Nat} {x1 : Int32} {x2 : Int32} {x3 : Int32} {q : Mem × Int32} (h : f_X1_makes M a0 x1 x2 x3 = some q) : Ctr l G yX1_makes Y_X1_makes M [.ref (gh G + a0), .int x1, .int x2, .int x3] q.1 (some (.int q.2)) := by
  refine Ctr.of (Y := Y_X1_makes) (L := [some (.ref (gh G + a0)), some (.int x1), some (.int x2), some (.int x3), none, none]) (t := Option.bind (f_X1_makes M a0 x1 x2 x3) (fun q => some (q.1, some (.int q.2)))) (by decide) rfl rfl (nle rfl) (Lof_in 2 _ rfl) (fun X hG hl => ?_) (by rw [h]; rfl)
  subst hG
  subst hl
  unfold f_X1_makes
  refine s_iload_n (pc := 0) 1 dX1_makes_0 rfl rfl ?_
  refine s_join M (fun s2 : Int32 => M) 127 (fun s2 : Int32 => [some (.ref (gh (xG X) + a0)), some (.int x1), some (.int x2), some (.int x3), some (.int s2), none]) (fun s2 : Int32 => []) (fun s2 hs3 => ?_) (fun j1 hj4 => ?_)
  · show S0 X _ M 127 [some (.ref (gh (xG X) + a0)), some (.int x1), some (.int x2), some (.int x3), some (.int s2), none] [] _
    refine s_iload (pc := 127) dX1_makes_127 rfl ?_
    refine s_iconst (pc := 129) (-1) dX1_makes_129 kc_m1 ?_
    refine s_icne (pc := 130) 135 dX1_makes_130 rfl ?_ ?_
    · refine s_iload_n (pc := 135) 1 dX1_makes_135 rfl rfl ?_
      refine s_iconst (pc := 136) 1 dX1_makes_136 kc_1 ?_
      refine s_join M (fun s6 : Int32 => M) 153 (fun s6 : Int32 => [some (.ref (gh (xG X) + a0)), some (.int x1), some (.int x2), none, some (.int s2), none]) (fun s6 : Int32 => [.int s6]) (fun s6 hs7 => ?_) (fun j5 hj8 => ?_)
      · show S0 X _ M 153 [some (.ref (gh (xG X) + a0)), some (.int x1), some (.int x2), none, some (.int s2), none] [.int s6] _
        refine s_istore (pc := 153) dX1_makes_153 (nlt rfl) rfl (L' := [some (.ref (gh (xG X) + a0)), some (.int x1), some (.int x2), none, some (.int s2), some (.int s6)]) rfl ?_
        refine s_aload_n (pc := 155) 0 dX1_makes_155 rfl rfl ?_
        refine s_aload_n (pc := 156) 0 dX1_makes_156 rfl rfl ?_
        refine s_grd (fun o9 => ?_)
        refine s_geto (pc := 157) F_1 1 rfl o9 dX1_makes_157 kf_X1_29 ?_
        refine s_rvB (fun r10 => ?_)
        refine s_iload_n (pc := 160) 1 dX1_makes_160 rfl rfl ?_
        refine s_iload (pc := 161) dX1_makes_161 rfl ?_
        refine s_iload_n (pc := 163) 2 dX1_makes_163 rfl rfl ?_
        refine s_aload_n (pc := 164) 0 dX1_makes_164 rfl rfl ?_
        refine s_geto (pc := 165) F_1 2 rfl o9 dX1_makes_165 kf_X1_12 ?_
        refine s_rvB (fun r11 => ?_)
        refine s_grd (fun o12 => ?_)
        refine s_geti (pc := 168) F_6 2 rfl o12 dX1_makes_168 kf_X1_66 ?_
        refine s_aload_n (pc := 171) 0 dX1_makes_171 rfl rfl ?_
        refine s_geto (pc := 172) F_1 2 rfl o9 dX1_makes_172 kf_X1_12 ?_
        refine s_rvB (fun r13 => ?_)
        refine s_grd (fun o14 => ?_)
        refine s_geto (pc := 175) F_6 1 rfl o14 dX1_makes_175 kf_X1_70 ?_
        refine s_rvB (fun r15 => ?_)
        refine s_iload (pc := 178) dX1_makes_178 rfl ?_
        refine s_grd (fun o16 => ?_)
        refine s_grd (fun i17 => ?_)
        refine s_iald (pc := 180) o16 i17 dX1_makes_180 ?_
        refine s_grd (fun o18 => ?_)
        refine s_bind (fun q19 hq20 => ?_)
        have hC21 := t_X8_weightOf (l := xl X) (G := xG X) hq20
        refine s_callV (pc := 181) (As := [.int x1, .int s6, .int x2, .int (mI M r11 2), .int (mI M r15 s6.toNatClampNeg)]) (st := [.ref (gh (xG X) + a0)]) (nlt rfl) (q := (RX8, TX8, 7)) rfl rfl o18 cl_X8_weightOf wi_X8_weightOf wl_X8_weightOf km_X1_73 rfl rfl (nle rfl) (nle rfl) (nle rfl) dX1_makes_181 hC21 ?_
        have h22 := hC21.1 X
        have o23 := h22.ok o9
        show S0 X _ q19.1 184 [some (.ref (gh (xG X) + a0)), some (.int x1), some (.int x2), none, some (.int s2), some (.int s6)] [.int q19.2, .ref (gh (xG X) + a0)] _
        refine s_puti (pc := 184) F_1 7 rfl o23 rfl rfl rfl dX1_makes_184 kf_X1_79 (fun M24 hM25 => ?_)
        have h26 := le_wI hM25
        have o27 := h26.ok o23
        refine s_aload_n (pc := 187) 0 dX1_makes_187 rfl rfl ?_
        refine s_geti (pc := 188) F_1 7 rfl o27 dX1_makes_188 kf_X1_79 ?_
        refine s_iconst (pc := 191) (-1) dX1_makes_191 kc_m1 ?_
        refine s_icne (pc := 192) 199 dX1_makes_192 rfl ?_ ?_
        · refine s_iload (pc := 199) dX1_makes_199 rfl ?_
          exact s_iret rfl dX1_makes_201
        · refine s_iconst (pc := 195) (-1) dX1_makes_195 kc_m1 ?_
          refine s_goto (pc := 196) 201 dX1_makes_196 rfl ?_
          exact s_iret rfl dX1_makes_201
      · refine s_icne (pc := 137) 144 dX1_makes_137 rfl ?_ ?_
        · refine s_aload_n (pc := 144) 0 dX1_makes_144 rfl rfl ?_
          refine s_grd (fun o28 => ?_)
          refine s_geto (pc := 145) F_1 2 rfl o28 dX1_makes_145 kf_X1_12 ?_
          refine s_rvB (fun r29 => ?_)
          refine s_grd (fun o30 => ?_)
          refine s_geto (pc := 148) F_6 0 rfl o30 dX1_makes_148 kf_X1_60 ?_
          refine s_rvB (fun r31 => ?_)
          refine s_iload_n (pc := 151) 2 dX1_makes_151 rfl rfl ?_
          refine s_grd (fun o32 => ?_)
          refine s_grd (fun i33 => ?_)
          refine s_iald (pc := 152) o32 i33 dX1_makes_152 ?_
          exact s_drop (hj8 (mI M r31 x2.toNatClampNeg) Le.rf) (And.intro rfl (And.intro rfl (And.intro rfl (And.intro rfl trivial))))
        · refine s_iload_n (pc := 140) 3 dX1_makes_140 rfl rfl ?_
          refine s_goto (pc := 141) 153 dX1_makes_141 rfl ?_
          exact s_drop (hj8 x3 Le.rf) (And.intro rfl (And.intro rfl (And.intro rfl (And.intro rfl trivial))))
    · refine s_iconst (pc := 133) (-1) dX1_makes_133 kc_m1 ?_
      exact s_iret rfl dX1_makes_134
  · refine s_tsw (pc := 1) _ 85 dX1_makes_1 rfl rfl (And.intro (by decide) (And.intro (by simp only [List.length_cons, List.length_nil]; decide) rfl)) ?_ ?_
    · refine (And.intro ?_ (And.intro ?_ (And.intro ?_ (And.intro ?_ trivial))))
      · refine s_aload_n (pc := 32) 0 dX1_makes_32 rfl rfl ?_
        refine s_grd (fun o34 => ?_)
        refine s_geto (pc := 33) F_1 2 rfl o34 dX1_makes_33 kf_X1_12 ?_
        refine s_rvB (fun r35 => ?_)
        refine s_iload_n (pc := 36) 2 dX1_makes_36 rfl rfl ?_
        refine s_grd (fun o36 => ?_)
        refine s_bind (fun q37 hq38 => ?_)
        have hC39 := t_X6_without (l := xl X) (G := xG X) hq38
        refine s_callV (pc := 37) (As := [.int x2]) (st := []) (nlt rfl) (q := (RX6, TX6, 4)) rfl rfl o36 cl_X6_without wi_X6_without wl_X6_without km_X1_37 rfl rfl (nle rfl) (nle rfl) (nle rfl) dX1_makes_37 hC39 ?_
        show S0 X _ M 40 [some (.ref (gh (xG X) + a0)), some (.int x1), some (.int x2), some (.int x3), none, none] [.int q37] _
        refine s_istore (pc := 40) dX1_makes_40 (nlt rfl) rfl (L' := [some (.ref (gh (xG X) + a0)), some (.int x1), some (.int x2), some (.int x3), some (.int q37), none]) rfl ?_
        refine s_goto (pc := 42) 127 dX1_makes_42 rfl ?_
        exact s_drop (hj4 q37 Le.rf) (And.intro rfl (And.intro rfl (And.intro rfl (And.intro rfl (And.intro rfl trivial)))))
      · refine s_aload_n (pc := 45) 0 dX1_makes_45 rfl rfl ?_
        refine s_grd (fun o40 => ?_)
        refine s_geto (pc := 46) F_1 2 rfl o40 dX1_makes_46 kf_X1_12 ?_
        refine s_rvB (fun r41 => ?_)
        refine s_iload_n (pc := 49) 2 dX1_makes_49 rfl rfl ?_
        refine s_iload_n (pc := 50) 3 dX1_makes_50 rfl rfl ?_
        refine s_grd (fun o42 => ?_)
        refine s_bind (fun q43 hq44 => ?_)
        have hC45 := t_X6_with (l := xl X) (G := xG X) hq44
        refine s_callV (pc := 51) (As := [.int x2, .int x3]) (st := []) (nlt rfl) (q := (RX6, TX6, 4)) rfl rfl o42 cl_X6_with wi_X6_with wl_X6_with km_X1_41 rfl rfl (nle rfl) (nle rfl) (nle rfl) dX1_makes_51 hC45 ?_
        show S0 X _ M 54 [some (.ref (gh (xG X) + a0)), some (.int x1), some (.int x2), some (.int x3), none, none] [.int q43] _
        refine s_istore (pc := 54) dX1_makes_54 (nlt rfl) rfl (L' := [some (.ref (gh (xG X) + a0)), some (.int x1), some (.int x2), some (.int x3), some (.int q43), none]) rfl ?_
        refine s_goto (pc := 56) 127 dX1_makes_56 rfl ?_
        exact s_drop (hj4 q43 Le.rf) (And.intro rfl (And.intro rfl (And.intro rfl (And.intro rfl (And.intro rfl trivial)))))
      · refine s_aload_n (pc := 59) 0 dX1_makes_59 rfl rfl ?_
        refine s_grd (fun o46 => ?_)
        refine s_geto (pc := 60) F_1 2 rfl o46 dX1_makes_60 kf_X1_12 ?_
        refine s_rvB (fun r47 => ?_)
        refine s_iload_n (pc := 63) 2 dX1_makes_63 rfl rfl ?_
        refine s_grd (fun o48 => ?_)
        refine s_bind (fun q49 hq50 => ?_)
        have hC51 := t_X6_swapped (l := xl X) (G := xG X) hq50
        refine s_callV (pc := 64) (As := [.int x2]) (st := []) (nlt rfl) (q := (RX6, TX6, 4)) rfl rfl o48 cl_X6_swapped wi_X6_swapped wl_X6_swapped km_X1_45 rfl rfl (nle rfl) (nle rfl) (nle rfl) dX1_makes_64 hC51 ?_
        show S0 X _ M 67 [some (.ref (gh (xG X) + a0)), some (.int x1), some (.int x2), some (.int x3), none, none] [.int q49] _
        refine s_istore (pc := 67) dX1_makes_67 (nlt rfl) rfl (L' := [some (.ref (gh (xG X) + a0)), some (.int x1), some (.int x2), some (.int x3), some (.int q49), none]) rfl ?_
        refine s_goto (pc := 69) 127 dX1_makes_69 rfl ?_
        exact s_drop (hj4 q49 Le.rf) (And.intro rfl (And.intro rfl (And.intro rfl (And.intro rfl (And.intro rfl trivial)))))
      · refine s_aload_n (pc := 72) 0 dX1_makes_72 rfl rfl ?_
        refine s_grd (fun o52 => ?_)
        refine s_geto (pc := 73) F_1 2 rfl o52 dX1_makes_73 kf_X1_12 ?_
        refine s_rvB (fun r53 => ?_)
        refine s_iload_n (pc := 76) 2 dX1_makes_76 rfl rfl ?_
        refine s_grd (fun o54 => ?_)
        refine s_bind (fun q55 hq56 => ?_)
        have hC57 := t_X6_doubled (l := xl X) (G := xG X) hq56
        refine s_callV (pc := 77) (As := [.int x2]) (st := []) (nlt rfl) (q := (RX6, TX6, 4)) rfl rfl o54 cl_X6_doubled wi_X6_doubled wl_X6_doubled km_X1_48 rfl rfl (nle rfl) (nle rfl) (nle rfl) dX1_makes_77 hC57 ?_
        show S0 X _ M 80 [some (.ref (gh (xG X) + a0)), some (.int x1), some (.int x2), some (.int x3), none, none] [.int q55] _
        refine s_istore (pc := 80) dX1_makes_80 (nlt rfl) rfl (L' := [some (.ref (gh (xG X) + a0)), some (.int x1), some (.int x2), some (.int x3), some (.int q55), none]) rfl ?_
        refine s_goto (pc := 82) 127 dX1_makes_82 rfl ?_
        exact s_drop (hj4 q55 Le.rf) (And.intro rfl (And.intro rfl (And.intro rfl (And.intro rfl (And.intro rfl trivial)))))
    · refine s_aload_n (pc := 85) 0 dX1_makes_85 rfl rfl ?_
      refine s_grd (fun o58 => ?_)
      refine s_geto (pc := 86) F_1 2 rfl o58 dX1_makes_86 kf_X1_12 ?_
      refine s_rvB (fun r59 => ?_)
      refine s_iload_n (pc := 89) 2 dX1_makes_89 rfl rfl ?_
      refine s_grd (fun o60 => ?_)
      refine s_bind (fun q61 hq62 => ?_)
      have hC63 := t_X6_hasPlace (l := xl X) (G := xG X) hq62
      refine s_callV (pc := 90) (As := [.int x2]) (st := []) (nlt rfl) (q := (RX6, TX6, 4)) rfl rfl o60 cl_X6_hasPlace wi_X6_hasPlace wl_X6_hasPlace km_X1_51 rfl rfl (nle rfl) (nle rfl) (nle rfl) dX1_makes_90 hC63 ?_
      show S0 X _ M 93 [some (.ref (gh (xG X) + a0)), some (.int x1), some (.int x2), some (.int x3), none, none] [.int q61] _
      refine s_join M (fun s65 : Int32 => M) 125 (fun s65 : Int32 => [some (.ref (gh (xG X) + a0)), some (.int x1), some (.int x2), some (.int x3), none, none]) (fun s65 : Int32 => [.int s65]) (fun s65 hs66 => ?_) (fun j64 hj67 => ?_)
      · show S0 X _ M 125 [some (.ref (gh (xG X) + a0)), some (.int x1), some (.int x2), some (.int x3), none, none] [.int s65] _
        refine s_istore (pc := 125) dX1_makes_125 (nlt rfl) rfl (L' := [some (.ref (gh (xG X) + a0)), some (.int x1), some (.int x2), some (.int x3), some (.int s65), none]) rfl ?_
        exact s_drop (hj4 s65 Le.rf) (And.intro rfl (And.intro rfl (And.intro rfl (And.intro rfl (And.intro rfl trivial)))))
      · refine s_ifeq (pc := 93) 124 dX1_makes_93 rfl ?_ ?_
        · refine s_iconst (pc := 124) (-1) dX1_makes_124 kc_m1 ?_
          exact s_drop (hj67 (-1) Le.rf) (And.intro rfl (And.intro rfl (And.intro rfl (And.intro rfl trivial))))
        · refine s_aload_n (pc := 96) 0 dX1_makes_96 rfl rfl ?_
          refine s_geto (pc := 97) F_1 2 rfl o58 dX1_makes_97 kf_X1_12 ?_
          refine s_rvB (fun r68 => ?_)
          refine s_iload_n (pc := 100) 2 dX1_makes_100 rfl rfl ?_
          refine s_aload_n (pc := 101) 0 dX1_makes_101 rfl rfl ?_
          refine s_geto (pc := 102) F_1 0 rfl o58 dX1_makes_102 kf_X1_25 ?_
          refine s_rvB (fun r69 => ?_)
          refine s_grd (fun o70 => ?_)
          refine s_getoN (pc := 105) F_10 2 rfl o70 dX1_makes_105 (List.mem_of_getElem? (i := 3) rfl) ?_
          refine s_rvB (fun r71 => ?_)
          refine s_aload_n (pc := 108) 0 dX1_makes_108 rfl rfl ?_
          refine s_geto (pc := 109) F_1 2 rfl o58 dX1_makes_109 kf_X1_12 ?_
          refine s_rvB (fun r72 => ?_)
          refine s_grd (fun o73 => ?_)
          refine s_geto (pc := 112) F_6 0 rfl o73 dX1_makes_112 kf_X1_60 ?_
          refine s_rvB (fun r74 => ?_)
          refine s_iload_n (pc := 115) 2 dX1_makes_115 rfl rfl ?_
          refine s_grd (fun o75 => ?_)
          refine s_grd (fun i76 => ?_)
          refine s_iald (pc := 116) o75 i76 dX1_makes_116 ?_
          refine s_grd (fun o77 => ?_)
          refine s_grd (fun i78 => ?_)
          refine s_iald (pc := 117) o77 i78 dX1_makes_117 ?_
          refine s_grd (fun o79 => ?_)
          refine s_bind (fun q80 hq81 => ?_)
          have hC82 := t_X6_replaced (l := xl X) (G := xG X) hq81
          refine s_callV (pc := 118) (As := [.int x2, .int (mI M r71 (mI M r74 x2.toNatClampNeg).toNatClampNeg)]) (st := []) (nlt rfl) (q := (RX6, TX6, 4)) rfl rfl o79 cl_X6_replaced wi_X6_replaced wl_X6_replaced km_X1_63 rfl rfl (nle rfl) (nle rfl) (nle rfl) dX1_makes_118 hC82 ?_
          show S0 X _ M 121 [some (.ref (gh (xG X) + a0)), some (.int x1), some (.int x2), some (.int x3), none, none] [.int q80] _
          refine s_goto (pc := 121) 125 dX1_makes_121 rfl ?_
          exact s_drop (hj67 q80 Le.rf) (And.intro rfl (And.intro rfl (And.intro rfl (And.intro rfl trivial))))
noncomputable def f_X2_undoInAndDouble (M : Mem) (a0 : Nat) (x1 : Int32) (x2 : Int32) (x3 : Int32) : Option Mem :=
  grd (vp_in x2 7) (bv (x1 - (stV x2.toNatClampNeg) : Int32) (fun x2 => bv (x2 - 1 : Int32) (fun x3 => Option.bind (loopO (σ := Mem × Int32 × Int32 × Int32 × Int32 × Int32) (ρ := Mem) (fun s4 => if s4.2.2.2.2.2 < 0 then (some (.inr s4.1)) else (bv (ir s4.2.1 6 : Int32) (fun x12 => bv (s4.2.1 / 6 : Int32) (fun x13 => grd (vp_in (x2 - 1) 7) (bv (((stV (x2 - 1).toNatClampNeg) + (x13 * s4.2.2.2.1)) + s4.2.2.1 : Int32) (fun x15 => grd (okO s4.1 2 a0) (Option.bind (mR s4.1 a0 2) (fun r17 => grd (okO s4.1 16 r17) (grd (vp_in x15 (mL s4.1 r17)) (bv (fun (s21 : Mem) => bv (s4.2.2.1 + (x12 * s4.2.2.2.1) : Int32) (fun x25 => bv (s4.2.2.2.1 * 6 : Int32) (fun x26 => bv (s4.2.2.2.2.2 + (-1) : Int32) (fun x27 => some (.inl (s21, x13, x25, x26, x12, x27)))))) (fun j20 => if (mI s4.1 r17 x15.toNatClampNeg) = (-1) then (bv (((sr x3 (3 * x12)) &&& 7) - 1 : Int32) (fun x28 => Option.bind (mR s4.1 a0 1) (fun r29 => grd (okO s4.1 8 r29) (Option.bind (f_X8_weightOf s4.1 r29 1 x12 s4.2.2.2.2.2 (x2 - 1) x28) (fun q31 => bv (fun (s37 : Mem) => Option.bind (f_X2_note s37 a0 x15) (fun q41 => j20 q41)) (fun j36 => if q31.2 = (-1) then (if s4.2.2.2.2.1 = x12 then (Option.bind (mR q31.1 a0 1) (fun r46 => grd (okO q31.1 8 r46) (Option.bind (f_X8_weightOf q31.1 r46 3 x12 s4.2.2.2.2.2 (x2 - 1) x28) (fun q48 => if q48.2 = (-1) then (j20 q48.1) else (j36 q48.1))))) else (j20 q31.1)) else (j36 q31.1))))))) else (j20 s4.1)))))))))))) (M, x2, 0, 1, (-1), x3)) (fun (x10 : Mem) => some x10))))
abbrev Y_X2_undoInAndDouble : Sta := (RX2, "undoInAndDouble", cX2_undoInAndDouble, 12, none, 5)
set_option maxRecDepth 100000 in
set_option maxHeartbeats 8000000 in
theorem t_X2_undoInAndDouble {l : Launch} {G : Gh} {M : Mem} {a0 : Nat} {x1 : Int32} {x2 : Int32} {x3 : Int32} {q : Mem} (h : f_X2_undoInAndDouble M a0 x1 x2 x3 = some q) : Ctr l G yX2_undoInAndDouble Y_X2_undoInAndDouble M [.ref (gh G + a0), .int x1, .int x2, .int x3] q (none) := by
  refine Ctr.of (Y := Y_X2_undoInAndDouble) (L := [some (.ref (gh G + a0)), some (.int x1), some (.int x2), some (.int x3), none, none, none, none, none, none, none, none]) (t := Option.bind (f_X2_undoInAndDouble M a0 x1 x2 x3) (fun q => some (q, (none : Option Value)))) (by decide) rfl rfl (nle rfl) (Lof_in 8 _ rfl) (fun X hG hl => ?_) (by rw [h]; rfl)
  subst hG
  subst hl
  unfold f_X2_undoInAndDouble
  refine s_iload_n (pc := 0) 1 dX2_undoInAndDouble_0 rfl rfl ?_
  refine s_start (pc := 1) dX2_undoInAndDouble_1 (List.mem_of_getElem? (i := 24) rfl) ?_
  refine s_iload_n (pc := 4) 2 dX2_undoInAndDouble_4 rfl rfl ?_
  refine s_grd (fun i1 => ?_)
  refine s_sti (pc := 5) i1 dX2_undoInAndDouble_5 ?_
  refine s_isub (pc := 6) dX2_undoInAndDouble_6 ?_
  refine s_istore (pc := 7) dX2_undoInAndDouble_7 (nlt rfl) rfl (L' := [some (.ref (gh (xG X) + a0)), some (.int x1), some (.int x2), some (.int x3), some (.int (x1 - (stV x2.toNatClampNeg))), none, none, none, none, none, none, none]) rfl ?_
  refine s_bv (fun x2 : Int32 => [some (.ref (gh (xG X) + a0)), some (.int x1), some (.int x2), some (.int x3), some (.int x2), none, none, none, none, none, none, none]) (fun x2 => ?_) rfl
  refine s_iconst (pc := 9) 0 dX2_undoInAndDouble_9 kc_0 ?_
  refine s_istore (pc := 10) dX2_undoInAndDouble_10 (nlt rfl) rfl (L' := [some (.ref (gh (xG X) + a0)), some (.int x1), some (.int x2), some (.int x3), some (.int x2), some (.int 0), none, none, none, none, none, none]) rfl ?_
  refine s_iconst (pc := 12) 1 dX2_undoInAndDouble_12 kc_1 ?_
  refine s_istore (pc := 13) dX2_undoInAndDouble_13 (nlt rfl) rfl (L' := [some (.ref (gh (xG X) + a0)), some (.int x1), some (.int x2), some (.int x3), some (.int x2), some (.int 0), some (.int 1), none, none, none, none, none]) rfl ?_
  refine s_iconst (pc := 15) (-1) dX2_undoInAndDouble_15 kc_m1 ?_
  refine s_istore (pc := 16) dX2_undoInAndDouble_16 (nlt rfl) rfl (L' := [some (.ref (gh (xG X) + a0)), some (.int x1), some (.int x2), some (.int x3), some (.int x2), some (.int 0), some (.int 1), some (.int (-1)), none, none, none, none]) rfl ?_
  refine s_iload_n (pc := 18) 2 dX2_undoInAndDouble_18 rfl rfl ?_
  refine s_iconst (pc := 19) 1 dX2_undoInAndDouble_19 kc_1 ?_
  refine s_isub (pc := 20) dX2_undoInAndDouble_20 ?_
  refine s_istore (pc := 21) dX2_undoInAndDouble_21 (nlt rfl) rfl (L' := [some (.ref (gh (xG X) + a0)), some (.int x1), some (.int x2), some (.int x3), some (.int x2), some (.int 0), some (.int 1), some (.int (-1)), some (.int (x2 - 1)), none, none, none]) rfl ?_
  refine s_bv (fun x3 : Int32 => [some (.ref (gh (xG X) + a0)), some (.int x1), some (.int x2), some (.int x3), some (.int x2), some (.int 0), some (.int 1), some (.int (-1)), some (.int x3), none, none, none]) (fun x3 => ?_) rfl
  refine s_drop (L' := [some (.ref (gh (xG X) + a0)), none, some (.int x2), some (.int x3), some (.int x2), some (.int 0), some (.int 1), some (.int (-1)), some (.int x3), none, none, none]) ?_ (And.intro rfl (And.intro rfl (And.intro rfl (And.intro rfl (And.intro rfl (And.intro rfl (And.intro rfl (And.intro rfl trivial))))))))
  refine s_loop1 M (fun s4 : Mem × Int32 × Int32 × Int32 × Int32 × Int32 => s4.1) (fun s4 : Mem × Int32 × Int32 × Int32 × Int32 × Int32 => [some (.ref (gh (xG X) + a0)), none, some (.int x2), some (.int x3), some (.int s4.2.1), some (.int s4.2.2.1), some (.int s4.2.2.2.1), some (.int s4.2.2.2.2.1), some (.int s4.2.2.2.2.2), none, none, none]) (fun x10 : Mem => x10) 166 (fun x10 : Mem => [none, none, none, none, none, none, none, none, none, none, none, none]) (fun x10 hx11 => ?_) (fun T6 R8 hT7 hR9 s4 hs5 => ?_) (M, x2, 0, 1, (-1), x3) Le.rf
  · show S0 X _ x10 166 [none, none, none, none, none, none, none, none, none, none, none, none] [] _
    exact s_vret rfl dX2_undoInAndDouble_166
  · show S0 X _ s4.1 23 [some (.ref (gh (xG X) + a0)), none, some (.int x2), some (.int x3), some (.int s4.2.1), some (.int s4.2.2.1), some (.int s4.2.2.2.1), some (.int s4.2.2.2.2.1), some (.int s4.2.2.2.2.2), none, none, none] [] _
    refine s_iload (pc := 23) dX2_undoInAndDouble_23 rfl ?_
    refine s_iflt (pc := 25) 166 dX2_undoInAndDouble_25 rfl ?_ ?_
    · exact s_drop (hR9 s4.1 hs5) trivial
    · refine s_iload (pc := 28) dX2_undoInAndDouble_28 rfl ?_
      refine s_bipush (pc := 30) 6 dX2_undoInAndDouble_30 kb_6 ?_
      refine s_irem (pc := 32) dX2_undoInAndDouble_32 (by decide) ?_
      refine s_istore (pc := 33) dX2_undoInAndDouble_33 (nlt rfl) rfl (L' := [some (.ref (gh (xG X) + a0)), none, some (.int x2), some (.int x3), some (.int s4.2.1), some (.int s4.2.2.1), some (.int s4.2.2.2.1), some (.int s4.2.2.2.2.1), some (.int s4.2.2.2.2.2), some (.int (ir s4.2.1 6)), none, none]) rfl ?_
      refine s_bv (fun x12 : Int32 => [some (.ref (gh (xG X) + a0)), none, some (.int x2), some (.int x3), some (.int s4.2.1), some (.int s4.2.2.1), some (.int s4.2.2.2.1), some (.int s4.2.2.2.2.1), some (.int s4.2.2.2.2.2), some (.int x12), none, none]) (fun x12 => ?_) rfl
      refine s_iload (pc := 35) dX2_undoInAndDouble_35 rfl ?_
      refine s_bipush (pc := 37) 6 dX2_undoInAndDouble_37 kb_6 ?_
      refine s_idiv (pc := 39) dX2_undoInAndDouble_39 (by decide) ?_
      refine s_istore (pc := 40) dX2_undoInAndDouble_40 (nlt rfl) rfl (L' := [some (.ref (gh (xG X) + a0)), none, some (.int x2), some (.int x3), some (.int (s4.2.1 / 6)), some (.int s4.2.2.1), some (.int s4.2.2.2.1), some (.int s4.2.2.2.2.1), some (.int s4.2.2.2.2.2), some (.int x12), none, none]) rfl ?_
      refine s_bv (fun x13 : Int32 => [some (.ref (gh (xG X) + a0)), none, some (.int x2), some (.int x3), some (.int x13), some (.int s4.2.2.1), some (.int s4.2.2.2.1), some (.int s4.2.2.2.2.1), some (.int s4.2.2.2.2.2), some (.int x12), none, none]) (fun x13 => ?_) rfl
      refine s_start (pc := 42) dX2_undoInAndDouble_42 (List.mem_of_getElem? (i := 24) rfl) ?_
      refine s_iload_n (pc := 45) 2 dX2_undoInAndDouble_45 rfl rfl ?_
      refine s_iconst (pc := 46) 1 dX2_undoInAndDouble_46 kc_1 ?_
      refine s_isub (pc := 47) dX2_undoInAndDouble_47 ?_
      refine s_grd (fun i14 => ?_)
      refine s_sti (pc := 48) i14 dX2_undoInAndDouble_48 ?_
      refine s_iload (pc := 49) dX2_undoInAndDouble_49 rfl ?_
      refine s_iload (pc := 51) dX2_undoInAndDouble_51 rfl ?_
      refine s_imul (pc := 53) dX2_undoInAndDouble_53 ?_
      refine s_iadd (pc := 54) dX2_undoInAndDouble_54 ?_
      refine s_iload (pc := 55) dX2_undoInAndDouble_55 rfl ?_
      refine s_iadd (pc := 57) dX2_undoInAndDouble_57 ?_
      refine s_istore (pc := 58) dX2_undoInAndDouble_58 (nlt rfl) rfl (L' := [some (.ref (gh (xG X) + a0)), none, some (.int x2), some (.int x3), some (.int x13), some (.int s4.2.2.1), some (.int s4.2.2.2.1), some (.int s4.2.2.2.2.1), some (.int s4.2.2.2.2.2), some (.int x12), some (.int (((stV (x2 - 1).toNatClampNeg) + (x13 * s4.2.2.2.1)) + s4.2.2.1)), none]) rfl ?_
      refine s_bv (fun x15 : Int32 => [some (.ref (gh (xG X) + a0)), none, some (.int x2), some (.int x3), some (.int x13), some (.int s4.2.2.1), some (.int s4.2.2.2.1), some (.int s4.2.2.2.2.1), some (.int s4.2.2.2.2.2), some (.int x12), some (.int x15), none]) (fun x15 => ?_) rfl
      refine s_aload_n (pc := 60) 0 dX2_undoInAndDouble_60 rfl rfl ?_
      refine s_grd (fun o16 => ?_)
      refine s_geto (pc := 61) F_2 2 rfl o16 dX2_undoInAndDouble_61 kf_X2_9 ?_
      refine s_rvB (fun r17 => ?_)
      refine s_iload (pc := 64) dX2_undoInAndDouble_64 rfl ?_
      refine s_grd (fun o18 => ?_)
      refine s_grd (fun i19 => ?_)
      refine s_sald (pc := 66) o18 i19 dX2_undoInAndDouble_66 ?_
      refine s_iconst (pc := 67) (-1) dX2_undoInAndDouble_67 kc_m1 ?_
      refine s_join s4.1 (fun s21 : Mem => s21) 139 (fun s21 : Mem => [some (.ref (gh (xG X) + a0)), none, some (.int x2), some (.int x3), some (.int x13), some (.int s4.2.2.1), some (.int s4.2.2.2.1), none, some (.int s4.2.2.2.2.2), some (.int x12), none, none]) (fun s21 : Mem => []) (fun s21 hs22 => ?_) (fun j20 hj23 => ?_)
      · show S0 X _ s21 139 [some (.ref (gh (xG X) + a0)), none, some (.int x2), some (.int x3), some (.int x13), some (.int s4.2.2.1), some (.int s4.2.2.2.1), none, some (.int s4.2.2.2.2.2), some (.int x12), none, none] [] _
        have o24 := hs22.ok o16
        refine s_iload (pc := 139) dX2_undoInAndDouble_139 rfl ?_
        refine s_iload (pc := 141) dX2_undoInAndDouble_141 rfl ?_
        refine s_iload (pc := 143) dX2_undoInAndDouble_143 rfl ?_
        refine s_imul (pc := 145) dX2_undoInAndDouble_145 ?_
        refine s_iadd (pc := 146) dX2_undoInAndDouble_146 ?_
        refine s_istore (pc := 147) dX2_undoInAndDouble_147 (nlt rfl) rfl (L' := [some (.ref (gh (xG X) + a0)), none, some (.int x2), some (.int x3), some (.int x13), some (.int (s4.2.2.1 + (x12 * s4.2.2.2.1))), some (.int s4.2.2.2.1), none, some (.int s4.2.2.2.2.2), some (.int x12), none, none]) rfl ?_
        refine s_bv (fun x25 : Int32 => [some (.ref (gh (xG X) + a0)), none, some (.int x2), some (.int x3), some (.int x13), some (.int x25), some (.int s4.2.2.2.1), none, some (.int s4.2.2.2.2.2), some (.int x12), none, none]) (fun x25 => ?_) rfl
        refine s_iload (pc := 149) dX2_undoInAndDouble_149 rfl ?_
        refine s_bipush (pc := 151) 6 dX2_undoInAndDouble_151 kb_6 ?_
        refine s_imul (pc := 153) dX2_undoInAndDouble_153 ?_
        refine s_istore (pc := 154) dX2_undoInAndDouble_154 (nlt rfl) rfl (L' := [some (.ref (gh (xG X) + a0)), none, some (.int x2), some (.int x3), some (.int x13), some (.int x25), some (.int (s4.2.2.2.1 * 6)), none, some (.int s4.2.2.2.2.2), some (.int x12), none, none]) rfl ?_
        refine s_bv (fun x26 : Int32 => [some (.ref (gh (xG X) + a0)), none, some (.int x2), some (.int x3), some (.int x13), some (.int x25), some (.int x26), none, some (.int s4.2.2.2.2.2), some (.int x12), none, none]) (fun x26 => ?_) rfl
        refine s_iload (pc := 156) dX2_undoInAndDouble_156 rfl ?_
        refine s_istore (pc := 158) dX2_undoInAndDouble_158 (nlt rfl) rfl (L' := [some (.ref (gh (xG X) + a0)), none, some (.int x2), some (.int x3), some (.int x13), some (.int x25), some (.int x26), some (.int x12), some (.int s4.2.2.2.2.2), some (.int x12), none, none]) rfl ?_
        refine s_iinc (pc := 160) dX2_undoInAndDouble_160 rfl (v := s4.2.2.2.2.2 + (-1)) (congrArg (fun z : Int32 => s4.2.2.2.2.2 + z) kc_m1) (nlt rfl) rfl (L' := [some (.ref (gh (xG X) + a0)), none, some (.int x2), some (.int x3), some (.int x13), some (.int x25), some (.int x26), some (.int x12), some (.int (s4.2.2.2.2.2 + (-1))), some (.int x12), none, none]) rfl ?_
        refine s_bv (fun x27 : Int32 => [some (.ref (gh (xG X) + a0)), none, some (.int x2), some (.int x3), some (.int x13), some (.int x25), some (.int x26), some (.int x12), some (.int x27), some (.int x12), none, none]) (fun x27 => ?_) rfl
        refine s_goto (pc := 163) 23 dX2_undoInAndDouble_163 rfl ?_
        exact s_drop (hT7 (s21, x13, x25, x26, x12, x27) (hs5.tr hs22)) (And.intro rfl (And.intro rfl (And.intro rfl (And.intro rfl (And.intro rfl (And.intro rfl (And.intro rfl (And.intro rfl trivial))))))))
      · refine s_icne (pc := 68) 139 dX2_undoInAndDouble_68 rfl ?_ ?_
        · exact s_drop (hj23 s4.1 Le.rf) (And.intro rfl (And.intro rfl (And.intro rfl (And.intro rfl (And.intro rfl (And.intro rfl (And.intro rfl (And.intro rfl trivial))))))))
        · refine s_iload_n (pc := 71) 3 dX2_undoInAndDouble_71 rfl rfl ?_
          refine s_iconst (pc := 72) 3 dX2_undoInAndDouble_72 kc_3 ?_
          refine s_iload (pc := 73) dX2_undoInAndDouble_73 rfl ?_
          refine s_imul (pc := 75) dX2_undoInAndDouble_75 ?_
          refine s_ishr (pc := 76) dX2_undoInAndDouble_76 ?_
          refine s_bipush (pc := 77) 7 dX2_undoInAndDouble_77 kb_7 ?_
          refine s_iand (pc := 79) dX2_undoInAndDouble_79 ?_
          refine s_iconst (pc := 80) 1 dX2_undoInAndDouble_80 kc_1 ?_
          refine s_isub (pc := 81) dX2_undoInAndDouble_81 ?_
          refine s_istore (pc := 82) dX2_undoInAndDouble_82 (nlt rfl) rfl (L' := [some (.ref (gh (xG X) + a0)), none, some (.int x2), some (.int x3), some (.int x13), some (.int s4.2.2.1), some (.int s4.2.2.2.1), some (.int s4.2.2.2.2.1), some (.int s4.2.2.2.2.2), some (.int x12), some (.int x15), some (.int (((sr x3 (3 * x12)) &&& 7) - 1))]) rfl ?_
          refine s_bv (fun x28 : Int32 => [some (.ref (gh (xG X) + a0)), none, some (.int x2), some (.int x3), some (.int x13), some (.int s4.2.2.1), some (.int s4.2.2.2.1), some (.int s4.2.2.2.2.1), some (.int s4.2.2.2.2.2), some (.int x12), some (.int x15), some (.int x28)]) (fun x28 => ?_) rfl
          refine s_aload_n (pc := 84) 0 dX2_undoInAndDouble_84 rfl rfl ?_
          refine s_geto (pc := 85) F_2 1 rfl o16 dX2_undoInAndDouble_85 kf_X2_22 ?_
          refine s_rvB (fun r29 => ?_)
          refine s_iconst (pc := 88) 1 dX2_undoInAndDouble_88 kc_1 ?_
          refine s_iload (pc := 89) dX2_undoInAndDouble_89 rfl ?_
          refine s_iload (pc := 91) dX2_undoInAndDouble_91 rfl ?_
          refine s_iload_n (pc := 93) 2 dX2_undoInAndDouble_93 rfl rfl ?_
          refine s_iconst (pc := 94) 1 dX2_undoInAndDouble_94 kc_1 ?_
          refine s_isub (pc := 95) dX2_undoInAndDouble_95 ?_
          refine s_iload (pc := 96) dX2_undoInAndDouble_96 rfl ?_
          refine s_grd (fun o30 => ?_)
          refine s_bind (fun q31 hq32 => ?_)
          have hC33 := t_X8_weightOf (l := xl X) (G := xG X) hq32
          refine s_callV (pc := 98) (As := [.int 1, .int x12, .int s4.2.2.2.2.2, .int (x2 - 1), .int x28]) (st := []) (nlt rfl) (q := (RX8, TX8, 7)) rfl rfl o30 cl_X8_weightOf wi_X8_weightOf wl_X8_weightOf km_X2_97 rfl rfl (nle rfl) (nle rfl) (nle rfl) dX2_undoInAndDouble_98 hC33 ?_
          have h34 := hC33.1 X
          have o35 := h34.ok o16
          show S0 X _ q31.1 101 [some (.ref (gh (xG X) + a0)), none, some (.int x2), some (.int x3), some (.int x13), some (.int s4.2.2.1), some (.int s4.2.2.2.1), some (.int s4.2.2.2.2.1), some (.int s4.2.2.2.2.2), some (.int x12), some (.int x15), some (.int x28)] [.int q31.2] _
          refine s_iconst (pc := 101) (-1) dX2_undoInAndDouble_101 kc_m1 ?_
          refine s_join q31.1 (fun s37 : Mem => s37) 133 (fun s37 : Mem => [some (.ref (gh (xG X) + a0)), none, some (.int x2), some (.int x3), some (.int x13), some (.int s4.2.2.1), some (.int s4.2.2.2.1), none, some (.int s4.2.2.2.2.2), some (.int x12), some (.int x15), none]) (fun s37 : Mem => []) (fun s37 hs38 => ?_) (fun j36 hj39 => ?_)
          · show S0 X _ s37 133 [some (.ref (gh (xG X) + a0)), none, some (.int x2), some (.int x3), some (.int x13), some (.int s4.2.2.1), some (.int s4.2.2.2.1), none, some (.int s4.2.2.2.2.2), some (.int x12), some (.int x15), none] [] _
            have o40 := hs38.ok o35
            refine s_aload_n (pc := 133) 0 dX2_undoInAndDouble_133 rfl rfl ?_
            refine s_iload (pc := 134) dX2_undoInAndDouble_134 rfl ?_
            refine s_bind (fun q41 hq42 => ?_)
            have hC43 := t_X2_note (l := xl X) (G := xG X) hq42
            refine s_callV (pc := 136) (As := [.int x15]) (st := []) (nlt rfl) (q := (RX2, TX2, 11)) rfl rfl o40 cl_X2_note wi_X2_note wl_X2_note km_X2_62 rfl rfl (nle rfl) (nle rfl) (nle rfl) dX2_undoInAndDouble_136 hC43 ?_
            have h44 := hC43.1 X
            have o45 := h44.ok o40
            show S0 X _ q41 139 [some (.ref (gh (xG X) + a0)), none, some (.int x2), some (.int x3), some (.int x13), some (.int s4.2.2.1), some (.int s4.2.2.2.1), none, some (.int s4.2.2.2.2.2), some (.int x12), some (.int x15), none] [] _
            exact s_drop (hj23 q41 (h34.tr (hs38.tr h44))) (And.intro rfl (And.intro rfl (And.intro rfl (And.intro rfl (And.intro rfl (And.intro rfl (And.intro rfl (And.intro rfl trivial))))))))
          · refine s_icne (pc := 102) 133 dX2_undoInAndDouble_102 rfl ?_ ?_
            · exact s_drop (hj39 q31.1 Le.rf) (And.intro rfl (And.intro rfl (And.intro rfl (And.intro rfl (And.intro rfl (And.intro rfl (And.intro rfl (And.intro rfl (And.intro rfl trivial)))))))))
            · refine s_iload (pc := 105) dX2_undoInAndDouble_105 rfl ?_
              refine s_iload (pc := 107) dX2_undoInAndDouble_107 rfl ?_
              refine s_icne (pc := 109) 139 dX2_undoInAndDouble_109 rfl ?_ ?_
              · exact s_drop (hj23 q31.1 h34) (And.intro rfl (And.intro rfl (And.intro rfl (And.intro rfl (And.intro rfl (And.intro rfl (And.intro rfl (And.intro rfl trivial))))))))
              · refine s_aload_n (pc := 112) 0 dX2_undoInAndDouble_112 rfl rfl ?_
                refine s_geto (pc := 113) F_2 1 rfl o35 dX2_undoInAndDouble_113 kf_X2_22 ?_
                refine s_rvB (fun r46 => ?_)
                refine s_iconst (pc := 116) 3 dX2_undoInAndDouble_116 kc_3 ?_
                refine s_iload (pc := 117) dX2_undoInAndDouble_117 rfl ?_
                refine s_iload (pc := 119) dX2_undoInAndDouble_119 rfl ?_
                refine s_iload_n (pc := 121) 2 dX2_undoInAndDouble_121 rfl rfl ?_
                refine s_iconst (pc := 122) 1 dX2_undoInAndDouble_122 kc_1 ?_
                refine s_isub (pc := 123) dX2_undoInAndDouble_123 ?_
                refine s_iload (pc := 124) dX2_undoInAndDouble_124 rfl ?_
                refine s_grd (fun o47 => ?_)
                refine s_bind (fun q48 hq49 => ?_)
                have hC50 := t_X8_weightOf (l := xl X) (G := xG X) hq49
                refine s_callV (pc := 126) (As := [.int 3, .int x12, .int s4.2.2.2.2.2, .int (x2 - 1), .int x28]) (st := []) (nlt rfl) (q := (RX8, TX8, 7)) rfl rfl o47 cl_X8_weightOf wi_X8_weightOf wl_X8_weightOf km_X2_97 rfl rfl (nle rfl) (nle rfl) (nle rfl) dX2_undoInAndDouble_126 hC50 ?_
                have h51 := hC50.1 X
                have o52 := h51.ok o35
                show S0 X _ q48.1 129 [some (.ref (gh (xG X) + a0)), none, some (.int x2), some (.int x3), some (.int x13), some (.int s4.2.2.1), some (.int s4.2.2.2.1), some (.int s4.2.2.2.2.1), some (.int s4.2.2.2.2.2), some (.int x12), some (.int x15), some (.int x28)] [.int q48.2] _
                refine s_iconst (pc := 129) (-1) dX2_undoInAndDouble_129 kc_m1 ?_
                refine s_iceq (pc := 130) 139 dX2_undoInAndDouble_130 rfl ?_ ?_
                · exact s_drop (hj23 q48.1 (h34.tr h51)) (And.intro rfl (And.intro rfl (And.intro rfl (And.intro rfl (And.intro rfl (And.intro rfl (And.intro rfl (And.intro rfl trivial))))))))
                · exact s_drop (hj39 q48.1 h51) (And.intro rfl (And.intro rfl (And.intro rfl (And.intro rfl (And.intro rfl (And.intro rfl (And.intro rfl (And.intro rfl (And.intro rfl trivial)))))))))
