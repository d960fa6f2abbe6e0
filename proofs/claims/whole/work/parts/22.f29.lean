set_option maxRecDepth 100000 in
set_option maxHeartbeats 8000000 in
noncomputable def f_X7_sumFor (M : Mem) (a0 : Nat) (p1 : Int32) : Option (Mem × Int32) :=
  grd (okO M 7 a0) (Option.bind (mR M a0 3) (fun r2 => Option.bind (mR M a0 3) (fun r3 => grd (okO M 9 r3) (grd (okO M 9 r2) (Option.bind (f_X9_set M r2 p1 (mI M r3 3)) (fun q6 => Option.bind (f_X7_sum 100 q6 a0 0) (fun q11 => if q11.2 = 0 then (some (q11.1, 0)) else (Option.bind (mR q11.1 a0 3) (fun r16 => grd (okO q11.1 9 r16) (Option.bind (f_X9_emit q11.1 r16 0 0) (fun q18 => some (q18.1, 1))))))))))))
abbrev Y_X7_sumFor : Sta := (RX7, "sumFor", cX7_sumFor, 2, (some .boolean), 104)
set_option maxRecDepth 100000 in
set_option maxHeartbeats 8000000 in
theorem t_X7_sumFor {l : Launch} {G : Gh} {M : Mem} {a0 : Nat} {p1 : Int32} {q : Mem × Int32} (h : f_X7_sumFor M a0 p1 = some q) : Ctr l G yX7_sumFor Y_X7_sumFor M [.ref (gh G + a0), .int p1] q.1 (some (.int q.2)) := by
  refine Ctr.of (Y := Y_X7_sumFor) (L := [some (.ref (gh G + a0)), some (.int p1)]) (t := Option.bind (f_X7_sumFor M a0 p1) (fun q => some (q.1, some (.int q.2)))) (by decide) rfl rfl (nle rfl) (Lof_in 0 _ rfl) (fun X hG hl => ?_) (by rw [h]; rfl)
  subst hG
  subst hl
  unfold f_X7_sumFor
  refine s_aload_n (pc := 0) 0 dX7_sumFor_0 rfl rfl ?_
  refine s_grd (fun o1 => ?_)
  refine s_geto (pc := 1) F_7 3 rfl o1 dX7_sumFor_1 kf_X7_26 ?_
  refine s_rvB (fun r2 => ?_)
  refine s_iload_n (pc := 4) 1 dX7_sumFor_4 rfl rfl ?_
  refine s_aload_n (pc := 5) 0 dX7_sumFor_5 rfl rfl ?_
  refine s_geto (pc := 6) F_7 3 rfl o1 dX7_sumFor_6 kf_X7_26 ?_
  refine s_rvB (fun r3 => ?_)
  refine s_grd (fun o4 => ?_)
  refine s_geti (pc := 9) F_9 3 rfl o4 dX7_sumFor_9 kf_X7_126 ?_
  refine s_grd (fun o5 => ?_)
  refine s_bind (fun q6 hq7 => ?_)
  have hC8 := t_X9_set (l := xl X) (G := xG X) hq7
  refine s_callV (pc := 12) (As := [.int p1, .int (mI M r3 3)]) (st := []) (nlt rfl) (q := (RX9, TX9, 5)) rfl rfl o5 cl_X9_set wi_X9_set wl_X9_set km_X7_123 rfl rfl (nle rfl) (nle rfl) (nle rfl) dX7_sumFor_12 hC8 ?_
  have h9 := hC8.1 X
  have o10 := h9.ok o1
  show S0 X _ q6 15 [some (.ref (gh (xG X) + a0)), some (.int p1)] [] _
  refine s_aload_n (pc := 15) 0 dX7_sumFor_15 rfl rfl ?_
  refine s_iconst (pc := 16) 0 dX7_sumFor_16 kc_0 ?_
  refine s_bind (fun q11 hq12 => ?_)
  have hC13 := tf_X7_sum (l := xl X) (G := xG X) hq12
  refine s_callV (pc := 17) (As := [.int 0]) (st := []) (nlt rfl) (q := (RX7, TX7, 10)) rfl rfl o10 cl_X7_sum wi_X7_sum wl_X7_sum km_X7_137 rfl rfl (nle rfl) (nle rfl) (nle rfl) dX7_sumFor_17 hC13 ?_
  have h14 := hC13.1 X
  have o15 := h14.ok o10
  show S0 X _ q11.1 20 [some (.ref (gh (xG X) + a0)), some (.int p1)] [.int q11.2] _
  refine s_ifne (pc := 20) 25 dX7_sumFor_20 rfl ?_ ?_
  · refine s_aload_n (pc := 25) 0 dX7_sumFor_25 rfl rfl ?_
    refine s_geto (pc := 26) F_7 3 rfl o15 dX7_sumFor_26 kf_X7_26 ?_
    refine s_rvB (fun r16 => ?_)
    refine s_iconst (pc := 29) 0 dX7_sumFor_29 kc_0 ?_
    refine s_iconst (pc := 30) 0 dX7_sumFor_30 kc_0 ?_
    refine s_grd (fun o17 => ?_)
    refine s_bind (fun q18 hq19 => ?_)
    have hC20 := t_X9_emit (l := xl X) (G := xG X) hq19
    refine s_callV (pc := 31) (As := [.int 0, .int 0]) (st := []) (nlt rfl) (q := (RX9, TX9, 5)) rfl rfl o17 cl_X9_emit wi_X9_emit wl_X9_emit km_X7_134 rfl rfl (nle rfl) (nle rfl) (nle rfl) dX7_sumFor_31 hC20 ?_
    have h21 := hC20.1 X
    have o22 := h21.ok o15
    show S0 X _ q18.1 34 [some (.ref (gh (xG X) + a0)), some (.int p1)] [.int q18.2] _
    refine s_pop (pc := 34) dX7_sumFor_34 rfl ?_
    refine s_iconst (pc := 35) 1 dX7_sumFor_35 kc_1 ?_
    exact s_zret rfl rfl dX7_sumFor_36
  · refine s_iconst (pc := 23) 0 dX7_sumFor_23 kc_0 ?_
    exact s_zret rfl rfl dX7_sumFor_24
abbrev Y_X12_readBoth (d : Nat) : Sta := (RX12, "readBoth", cX12_readBoth, 2, none, 105 + d)
abbrev Y_X12_readPlain (d : Nat) : Sta := (RX12, "readPlain", cX12_readPlain, 4, none, 105 + d)
abbrev Y_X12_readTest (d : Nat) : Sta := (RX12, "readTest", cX12_readTest, 2, none, 105 + d)
set_option maxRecDepth 100000 in
set_option maxHeartbeats 8000000 in
noncomputable def b_X12_readBoth (g_X12_readPlain : Mem → Nat → Int32 → Option Mem) (M : Mem) (a0 : Nat) (p1 : Int32) : Option Mem :=
  grd (okO M 12 a0) (Option.bind (g_X12_readPlain M a0 p1) (fun q2 => Option.bind (loopO (σ := Mem) (ρ := Mem) (fun s7 => Option.bind (f_X12_takes0 s7 a0 5) (fun q16 => if q16.2 = 0 then (some (.inr q16.1)) else (Option.bind (g_X12_readPlain q16.1 a0 p1) (fun q21 => some (.inl q21))))) q2) (fun (x14 : Mem) => some x14)))
set_option maxRecDepth 100000 in
set_option maxHeartbeats 8000000 in
theorem t_X12_readBoth {d : Nat} {g_X12_readPlain : Mem → Nat → Int32 → Option Mem} {l : Launch} {G : Gh} {M : Mem} {a0 : Nat} {p1 : Int32} {q : Mem} (hg_X12_readPlain : ∀ X : Ctx, xG X = G → xl X = l → ∀ (M : Mem) (a0 : Nat) (p1 : Int32) (q : Mem), g_X12_readPlain M a0 p1 = some q → Ctr (xl X) (xG X) yX12_readPlain (Y_X12_readPlain d) M [.ref (gh (xG X) + a0), .int p1] q (none)) (h : b_X12_readBoth g_X12_readPlain M a0 p1 = some q) : Ctr l G yX12_readBoth (Y_X12_readBoth (d + 1)) M [.ref (gh G + a0), .int p1] q (none) := by
  refine Ctr.of (Y := (Y_X12_readBoth (d + 1))) (L := [some (.ref (gh G + a0)), some (.int p1)]) (t := Option.bind (b_X12_readBoth g_X12_readPlain M a0 p1) (fun q => some (q, (none : Option Value)))) (by decide) rfl rfl (nle rfl) (Lof_in 0 _ rfl) (fun X hG hl => ?_) (by rw [h]; rfl)
  subst hG
  subst hl
  unfold b_X12_readBoth
  refine s_aload_n (pc := 0) 0 dX12_readBoth_0 rfl rfl ?_
  refine s_iload_n (pc := 1) 1 dX12_readBoth_1 rfl rfl ?_
  refine s_grd (fun o1 => ?_)
  refine s_bind (fun q2 hq3 => ?_)
  have hC4 := hg_X12_readPlain X rfl rfl M a0 p1 q2 hq3
  refine s_callV (pc := 2) (As := [.int p1]) (st := []) (nlt rfl) (q := (RX12, TX12, 59)) rfl rfl o1 cl_X12_readPlain wi_X12_readPlain wl_X12_readPlain km_X12_275 rfl rfl (Nat.le_refl _) (nle rfl) (nle rfl) dX12_readBoth_2 hC4 ?_
  have h5 := hC4.1 X
  have o6 := h5.ok o1
  show S0 X _ q2 5 [some (.ref (gh (xG X) + a0)), some (.int p1)] [] _
  refine s_drop (L' := [some (.ref (gh (xG X) + a0)), some (.int p1)]) ?_ (And.intro rfl (And.intro rfl trivial))
  refine s_loop1 q2 (fun s7 : Mem => s7) (fun s7 : Mem => [some (.ref (gh (xG X) + a0)), some (.int p1)]) (fun x14 : Mem => x14) 21 (fun x14 : Mem => [none, none]) (fun x14 hx15 => ?_) (fun T9 R11 hT10 hR12 s7 hs8 => ?_) q2 Le.rf
  · show S0 X _ x14 21 [none, none] [] _
    exact s_vret rfl dX12_readBoth_21
  · show S0 X _ s7 5 [some (.ref (gh (xG X) + a0)), some (.int p1)] [] _
    have o13 := hs8.ok o6
    refine s_aload_n (pc := 5) 0 dX12_readBoth_5 rfl rfl ?_
    refine s_iconst (pc := 6) 5 dX12_readBoth_6 kc_5 ?_
    refine s_bind (fun q16 hq17 => ?_)
    have hC18 := t_X12_takes0 (l := xl X) (G := xG X) hq17
    refine s_callV (pc := 7) (As := [.int 5]) (st := []) (nlt rfl) (q := (RX12, TX12, 59)) rfl rfl o13 cl_X12_takes0 wi_X12_takes0 wl_X12_takes0 km_X12_240 rfl rfl (Nat.le_trans (nle rfl : _ ≤ 105) (Nat.le_add_right 105 _)) (nle rfl) (nle rfl) dX12_readBoth_7 hC18 ?_
    have h19 := hC18.1 X
    have o20 := h19.ok o13
    show S0 X _ q16.1 10 [some (.ref (gh (xG X) + a0)), some (.int p1)] [.int q16.2] _
    refine s_ifeq (pc := 10) 21 dX12_readBoth_10 rfl ?_ ?_
    · exact s_drop (hR12 q16.1 (hs8.tr h19)) trivial
    · refine s_aload_n (pc := 13) 0 dX12_readBoth_13 rfl rfl ?_
      refine s_iload_n (pc := 14) 1 dX12_readBoth_14 rfl rfl ?_
      refine s_bind (fun q21 hq22 => ?_)
      have hC23 := hg_X12_readPlain X rfl rfl q16.1 a0 p1 q21 hq22
      refine s_callV (pc := 15) (As := [.int p1]) (st := []) (nlt rfl) (q := (RX12, TX12, 59)) rfl rfl o20 cl_X12_readPlain wi_X12_readPlain wl_X12_readPlain km_X12_275 rfl rfl (Nat.le_refl _) (nle rfl) (nle rfl) dX12_readBoth_15 hC23 ?_
      have h24 := hC23.1 X
      have o25 := h24.ok o20
      show S0 X _ q21 18 [some (.ref (gh (xG X) + a0)), some (.int p1)] [] _
      refine s_goto (pc := 18) 5 dX12_readBoth_18 rfl ?_
      exact s_drop (hT10 q21 (hs8.tr (h19.tr h24))) (And.intro rfl (And.intro rfl trivial))
set_option maxRecDepth 100000 in
set_option maxHeartbeats 8000000 in
noncomputable def b_X12_readPlain (g_X12_readTest : Mem → Nat → Int32 → Option Mem) (M : Mem) (a0 : Nat) (p1 : Int32) : Option Mem :=
  Option.bind (loopO (σ := Mem × Int32) (ρ := Mem) (fun s1 => if s1.2 = 0 then (some (.inr s1.1)) else (grd (okO s1.1 12 a0) (Option.bind (f_X12_takes0 s1.1 a0 6) (fun q10 => some (.inl (q10.1, q10.2)))))) (M, 1)) (fun (x7 : Mem) => grd (okO x7 12 a0) (Option.bind (f_X12_fine x7 a0) (fun q16 => if q16 = 0 then (some x7) else (Option.bind (mR x7 a0 19) (fun r19 => grd (okO x7 14 r19) (grd (vp_in (mI x7 a0 23) (mL x7 r19)) (bv (mI x7 r19 (mI x7 a0 23).toNatClampNeg : Int32) (fun x22 => Option.bind (f_X12_sign 40) (fun q23 => if x22 = q23 then (bv (fun (s66 : Mem) => Option.bind (f_X12_fine s66 a0) (fun q70 => if q70 = 0 then (some s66) else (bv (wI s66 a0 23 ((mI s66 a0 23) + 1)) (fun M73 => Option.bind (g_X12_readTest M73 a0 (p1 + 1)) (fun q77 => Option.bind (f_X12_sign 41) (fun q82 => Option.bind (f_X12_must q77 a0 q82) (fun q85 => some q85))))))) (fun j65 => if p1 = 8 then (Option.bind (f_X12_faults x7 a0) (fun q90 => j65 q90)) else (j65 x7))) else (Option.bind (f_X12_readSum 100 x7 a0 p1) (fun q26 => Option.bind (f_X12_sign 60) (fun q31 => Option.bind (f_X12_takes0 q26 a0 q31) (fun q34 => bv (fun (s40 : Mem) => Option.bind (f_X12_readSum 100 s40 a0 p1) (fun q44 => some q44)) (fun j39 => if q34.2 = 0 then (Option.bind (f_X12_sign 62) (fun q49 => Option.bind (f_X12_takes0 q34.1 a0 q49) (fun q52 => if q52.2 = 0 then (Option.bind (f_X12_sign 61) (fun q57 => Option.bind (f_X12_must q52.1 a0 q57) (fun q60 => j39 q60))) else (j39 q52.1)))) else (j39 q34.1)))))))))))))))
set_option maxRecDepth 100000 in
set_option maxHeartbeats 8000000 in
theorem t_X12_readPlain {d : Nat} {g_X12_readTest : Mem → Nat → Int32 → Option Mem} {l : Launch} {G : Gh} {M : Mem} {a0 : Nat} {p1 : Int32} {q : Mem} (hg_X12_readTest : ∀ X : Ctx, xG X = G → xl X = l → ∀ (M : Mem) (a0 : Nat) (p1 : Int32) (q : Mem), g_X12_readTest M a0 p1 = some q → Ctr (xl X) (xG X) yX12_readTest (Y_X12_readTest d) M [.ref (gh (xG X) + a0), .int p1] q (none)) (h : b_X12_readPlain g_X12_readTest M a0 p1 = some q) : Ctr l G yX12_readPlain (Y_X12_readPlain (d + 1)) M [.ref (gh G + a0), .int p1] q (none) := by
  refine Ctr.of (Y := (Y_X12_readPlain (d + 1))) (L := [some (.ref (gh G + a0)), some (.int p1), none, none]) (t := Option.bind (b_X12_readPlain g_X12_readTest M a0 p1) (fun q => some (q, (none : Option Value)))) (by decide) rfl rfl (nle rfl) (Lof_in 2 _ rfl) (fun X hG hl => ?_) (by rw [h]; rfl)
  subst hG
  subst hl
  unfold b_X12_readPlain
  refine s_iconst (pc := 0) 1 dX12_readPlain_0 kc_1 ?_
  refine s_istore_n (pc := 1) 2 dX12_readPlain_1 rfl (nlt rfl) rfl (L' := [some (.ref (gh (xG X) + a0)), some (.int p1), some (.int 1), none]) rfl ?_
  refine s_drop (L' := [some (.ref (gh (xG X) + a0)), some (.int p1), some (.int 1), none]) ?_ (And.intro rfl (And.intro rfl (And.intro rfl trivial)))
  refine s_loop1 M (fun s1 : Mem × Int32 => s1.1) (fun s1 : Mem × Int32 => [some (.ref (gh (xG X) + a0)), some (.int p1), some (.int s1.2), none]) (fun x7 : Mem => x7) 16 (fun x7 : Mem => [some (.ref (gh (xG X) + a0)), some (.int p1), none, none]) (fun x7 hx8 => ?_) (fun T3 R5 hT4 hR6 s1 hs2 => ?_) (M, 1) Le.rf
  · show S0 X _ x7 16 [some (.ref (gh (xG X) + a0)), some (.int p1), none, none] [] _
    refine s_aload_n (pc := 16) 0 dX12_readPlain_16 rfl rfl ?_
    refine s_grd (fun o15 => ?_)
    refine s_bind (fun q16 hq17 => ?_)
    have hC18 := t_X12_fine (l := xl X) (G := xG X) hq17
    refine s_callV (pc := 17) (As := []) (st := []) (nlt rfl) (q := (RX12, TX12, 59)) rfl rfl o15 cl_X12_fine wi_X12_fine wl_X12_fine km_X12_233 rfl rfl (Nat.le_trans (nle rfl : _ ≤ 105) (Nat.le_add_right 105 _)) (nle rfl) (nle rfl) dX12_readPlain_17 hC18 ?_
    show S0 X _ x7 20 [some (.ref (gh (xG X) + a0)), some (.int p1), none, none] [.int q16] _
    refine s_ifne (pc := 20) 24 dX12_readPlain_20 rfl ?_ ?_
    · refine s_aload_n (pc := 24) 0 dX12_readPlain_24 rfl rfl ?_
      refine s_geto (pc := 25) F_12 19 rfl o15 dX12_readPlain_25 kf_X12_52 ?_
      refine s_rvB (fun r19 => ?_)
      refine s_aload_n (pc := 28) 0 dX12_readPlain_28 rfl rfl ?_
      refine s_geti (pc := 29) F_12 23 rfl o15 dX12_readPlain_29 kf_X12_237 ?_
      refine s_grd (fun o20 => ?_)
      refine s_grd (fun i21 => ?_)
      refine s_iald (pc := 32) o20 i21 dX12_readPlain_32 ?_
      refine s_istore_n (pc := 33) 3 dX12_readPlain_33 rfl (nlt rfl) rfl (L' := [some (.ref (gh (xG X) + a0)), some (.int p1), none, some (.int (mI x7 r19 (mI x7 a0 23).toNatClampNeg))]) rfl ?_
      refine s_bv (fun x22 : Int32 => [some (.ref (gh (xG X) + a0)), some (.int p1), none, some (.int x22)]) (fun x22 => ?_) rfl
      refine s_iload_n (pc := 34) 3 dX12_readPlain_34 rfl rfl ?_
      refine s_bipush (pc := 35) 40 dX12_readPlain_35 kb_40 ?_
      refine s_bind (fun q23 hq24 => ?_)
      have hC25 := t_X12_sign (l := xl X) (G := xG X) (M := x7) hq24
      refine s_callS (pc := 37) (As := [.int 40]) (st := [.int x22]) cl_X12_sign wt_X12_sign km_X12_278 rfl rfl (Nat.le_trans (nle rfl : _ ≤ 105) (Nat.le_add_right 105 _)) (nle rfl) (nle rfl) dX12_readPlain_37 hC25 ?_
      show S0 X _ x7 40 [some (.ref (gh (xG X) + a0)), some (.int p1), none, some (.int x22)] [.int q23, .int x22] _
      refine s_icne (pc := 40) 90 dX12_readPlain_40 rfl ?_ ?_
      · refine s_aload_n (pc := 90) 0 dX12_readPlain_90 rfl rfl ?_
        refine s_iload_n (pc := 91) 1 dX12_readPlain_91 rfl rfl ?_
        refine s_bind (fun q26 hq27 => ?_)
        have hC28 := tf_X12_readSum (l := xl X) (G := xG X) hq27
        refine s_callV (pc := 92) (As := [.int p1]) (st := []) (nlt rfl) (q := (RX12, TX12, 59)) rfl rfl o15 cl_X12_readSum wi_X12_readSum wl_X12_readSum km_X12_253 rfl rfl (Nat.le_trans (nle rfl : _ ≤ 105) (Nat.le_add_right 105 _)) (nle rfl) (nle rfl) dX12_readPlain_92 hC28 ?_
        have h29 := hC28.1 X
        have o30 := h29.ok o15
        show S0 X _ q26 95 [some (.ref (gh (xG X) + a0)), some (.int p1), none, some (.int x22)] [] _
        refine s_aload_n (pc := 95) 0 dX12_readPlain_95 rfl rfl ?_
        refine s_bipush (pc := 96) 60 dX12_readPlain_96 kb_60 ?_
        refine s_bind (fun q31 hq32 => ?_)
        have hC33 := t_X12_sign (l := xl X) (G := xG X) (M := q26) hq32
        refine s_callS (pc := 98) (As := [.int 60]) (st := [.ref (gh (xG X) + a0)]) cl_X12_sign wt_X12_sign km_X12_278 rfl rfl (Nat.le_trans (nle rfl : _ ≤ 105) (Nat.le_add_right 105 _)) (nle rfl) (nle rfl) dX12_readPlain_98 hC33 ?_
        show S0 X _ q26 101 [some (.ref (gh (xG X) + a0)), some (.int p1), none, some (.int x22)] [.int q31, .ref (gh (xG X) + a0)] _
        refine s_bind (fun q34 hq35 => ?_)
        have hC36 := t_X12_takes0 (l := xl X) (G := xG X) hq35
        refine s_callV (pc := 101) (As := [.int q31]) (st := []) (nlt rfl) (q := (RX12, TX12, 59)) rfl rfl o30 cl_X12_takes0 wi_X12_takes0 wl_X12_takes0 km_X12_240 rfl rfl (Nat.le_trans (nle rfl : _ ≤ 105) (Nat.le_add_right 105 _)) (nle rfl) (nle rfl) dX12_readPlain_101 hC36 ?_
        have h37 := hC36.1 X
        have o38 := h37.ok o30
        show S0 X _ q34.1 104 [some (.ref (gh (xG X) + a0)), some (.int p1), none, some (.int x22)] [.int q34.2] _
        refine s_join q34.1 (fun s40 : Mem => s40) 128 (fun s40 : Mem => [some (.ref (gh (xG X) + a0)), some (.int p1), none, none]) (fun s40 : Mem => []) (fun s40 hs41 => ?_) (fun j39 hj42 => ?_)
        · show S0 X _ s40 128 [some (.ref (gh (xG X) + a0)), some (.int p1), none, none] [] _
          have o43 := hs41.ok o38
          refine s_aload_n (pc := 128) 0 dX12_readPlain_128 rfl rfl ?_
          refine s_iload_n (pc := 129) 1 dX12_readPlain_129 rfl rfl ?_
          refine s_bind (fun q44 hq45 => ?_)
          have hC46 := tf_X12_readSum (l := xl X) (G := xG X) hq45
          refine s_callV (pc := 130) (As := [.int p1]) (st := []) (nlt rfl) (q := (RX12, TX12, 59)) rfl rfl o43 cl_X12_readSum wi_X12_readSum wl_X12_readSum km_X12_253 rfl rfl (Nat.le_trans (nle rfl : _ ≤ 105) (Nat.le_add_right 105 _)) (nle rfl) (nle rfl) dX12_readPlain_130 hC46 ?_
          have h47 := hC46.1 X
          have o48 := h47.ok o43
          show S0 X _ q44 133 [some (.ref (gh (xG X) + a0)), some (.int p1), none, none] [] _
          exact s_vret rfl dX12_readPlain_133
        · refine s_ifne (pc := 104) 128 dX12_readPlain_104 rfl ?_ ?_
          · exact s_drop (hj42 q34.1 Le.rf) (And.intro rfl (And.intro rfl trivial))
          · refine s_aload_n (pc := 107) 0 dX12_readPlain_107 rfl rfl ?_
            refine s_bipush (pc := 108) 62 dX12_readPlain_108 kb_62 ?_
            refine s_bind (fun q49 hq50 => ?_)
            have hC51 := t_X12_sign (l := xl X) (G := xG X) (M := q34.1) hq50
            refine s_callS (pc := 110) (As := [.int 62]) (st := [.ref (gh (xG X) + a0)]) cl_X12_sign wt_X12_sign km_X12_278 rfl rfl (Nat.le_trans (nle rfl : _ ≤ 105) (Nat.le_add_right 105 _)) (nle rfl) (nle rfl) dX12_readPlain_110 hC51 ?_
            show S0 X _ q34.1 113 [some (.ref (gh (xG X) + a0)), some (.int p1), none, some (.int x22)] [.int q49, .ref (gh (xG X) + a0)] _
            refine s_bind (fun q52 hq53 => ?_)
            have hC54 := t_X12_takes0 (l := xl X) (G := xG X) hq53
            refine s_callV (pc := 113) (As := [.int q49]) (st := []) (nlt rfl) (q := (RX12, TX12, 59)) rfl rfl o38 cl_X12_takes0 wi_X12_takes0 wl_X12_takes0 km_X12_240 rfl rfl (Nat.le_trans (nle rfl : _ ≤ 105) (Nat.le_add_right 105 _)) (nle rfl) (nle rfl) dX12_readPlain_113 hC54 ?_
            have h55 := hC54.1 X
            have o56 := h55.ok o38
            show S0 X _ q52.1 116 [some (.ref (gh (xG X) + a0)), some (.int p1), none, some (.int x22)] [.int q52.2] _
            refine s_ifne (pc := 116) 128 dX12_readPlain_116 rfl ?_ ?_
            · exact s_drop (hj42 q52.1 h55) (And.intro rfl (And.intro rfl trivial))
            · refine s_aload_n (pc := 119) 0 dX12_readPlain_119 rfl rfl ?_
              refine s_bipush (pc := 120) 61 dX12_readPlain_120 kb_61 ?_
              refine s_bind (fun q57 hq58 => ?_)
              have hC59 := t_X12_sign (l := xl X) (G := xG X) (M := q52.1) hq58
              refine s_callS (pc := 122) (As := [.int 61]) (st := [.ref (gh (xG X) + a0)]) cl_X12_sign wt_X12_sign km_X12_278 rfl rfl (Nat.le_trans (nle rfl : _ ≤ 105) (Nat.le_add_right 105 _)) (nle rfl) (nle rfl) dX12_readPlain_122 hC59 ?_
              show S0 X _ q52.1 125 [some (.ref (gh (xG X) + a0)), some (.int p1), none, some (.int x22)] [.int q57, .ref (gh (xG X) + a0)] _
              refine s_bind (fun q60 hq61 => ?_)
              have hC62 := t_X12_must (l := xl X) (G := xG X) hq61
              refine s_callV (pc := 125) (As := [.int q57]) (st := []) (nlt rfl) (q := (RX12, TX12, 59)) rfl rfl o56 cl_X12_must wi_X12_must wl_X12_must km_X12_256 rfl rfl (Nat.le_trans (nle rfl : _ ≤ 105) (Nat.le_add_right 105 _)) (nle rfl) (nle rfl) dX12_readPlain_125 hC62 ?_
              have h63 := hC62.1 X
              have o64 := h63.ok o56
              show S0 X _ q60 128 [some (.ref (gh (xG X) + a0)), some (.int p1), none, some (.int x22)] [] _
              exact s_drop (hj42 q60 (h55.tr h63)) (And.intro rfl (And.intro rfl trivial))
      · refine s_iload_n (pc := 43) 1 dX12_readPlain_43 rfl rfl ?_
        refine s_bipush (pc := 44) 8 dX12_readPlain_44 kb_8 ?_
        refine s_join x7 (fun s66 : Mem => s66) 53 (fun s66 : Mem => [some (.ref (gh (xG X) + a0)), some (.int p1), none, none]) (fun s66 : Mem => []) (fun s66 hs67 => ?_) (fun j65 hj68 => ?_)
        · show S0 X _ s66 53 [some (.ref (gh (xG X) + a0)), some (.int p1), none, none] [] _
          have o69 := hs67.ok o15
          refine s_aload_n (pc := 53) 0 dX12_readPlain_53 rfl rfl ?_
          refine s_bind (fun q70 hq71 => ?_)
          have hC72 := t_X12_fine (l := xl X) (G := xG X) hq71
          refine s_callV (pc := 54) (As := []) (st := []) (nlt rfl) (q := (RX12, TX12, 59)) rfl rfl o69 cl_X12_fine wi_X12_fine wl_X12_fine km_X12_233 rfl rfl (Nat.le_trans (nle rfl : _ ≤ 105) (Nat.le_add_right 105 _)) (nle rfl) (nle rfl) dX12_readPlain_54 hC72 ?_
          show S0 X _ s66 57 [some (.ref (gh (xG X) + a0)), some (.int p1), none, none] [.int q70] _
          refine s_ifne (pc := 57) 61 dX12_readPlain_57 rfl ?_ ?_
          · refine s_aload_n (pc := 61) 0 dX12_readPlain_61 rfl rfl ?_
            refine s_dup (pc := 62) dX12_readPlain_62 rfl ?_
            refine s_geti (pc := 63) F_12 23 rfl o69 dX12_readPlain_63 kf_X12_237 ?_
            refine s_iconst (pc := 66) 1 dX12_readPlain_66 kc_1 ?_
            refine s_iadd (pc := 67) dX12_readPlain_67 ?_
            refine s_puti (pc := 68) F_12 23 rfl o69 rfl rfl rfl dX12_readPlain_68 kf_X12_237 (fun M73 hM74 => ?_)
            have h75 := le_wI hM74
            have o76 := h75.ok o69
            refine s_aload_n (pc := 71) 0 dX12_readPlain_71 rfl rfl ?_
            refine s_iload_n (pc := 72) 1 dX12_readPlain_72 rfl rfl ?_
            refine s_iconst (pc := 73) 1 dX12_readPlain_73 kc_1 ?_
            refine s_iadd (pc := 74) dX12_readPlain_74 ?_
            refine s_bind (fun q77 hq78 => ?_)
            have hC79 := hg_X12_readTest X rfl rfl M73 a0 (p1 + 1) q77 hq78
            refine s_callV (pc := 75) (As := [.int (p1 + 1)]) (st := []) (nlt rfl) (q := (RX12, TX12, 59)) rfl rfl o76 cl_X12_readTest wi_X12_readTest wl_X12_readTest km_X12_259 rfl rfl (Nat.le_refl _) (nle rfl) (nle rfl) dX12_readPlain_75 hC79 ?_
            have h80 := hC79.1 X
            have o81 := h80.ok o76
            show S0 X _ q77 78 [some (.ref (gh (xG X) + a0)), some (.int p1), none, none] [] _
            refine s_aload_n (pc := 78) 0 dX12_readPlain_78 rfl rfl ?_
            refine s_bipush (pc := 79) 41 dX12_readPlain_79 kb_41 ?_
            refine s_bind (fun q82 hq83 => ?_)
            have hC84 := t_X12_sign (l := xl X) (G := xG X) (M := q77) hq83
            refine s_callS (pc := 81) (As := [.int 41]) (st := [.ref (gh (xG X) + a0)]) cl_X12_sign wt_X12_sign km_X12_278 rfl rfl (Nat.le_trans (nle rfl : _ ≤ 105) (Nat.le_add_right 105 _)) (nle rfl) (nle rfl) dX12_readPlain_81 hC84 ?_
            show S0 X _ q77 84 [some (.ref (gh (xG X) + a0)), some (.int p1), none, none] [.int q82, .ref (gh (xG X) + a0)] _
            refine s_bind (fun q85 hq86 => ?_)
            have hC87 := t_X12_must (l := xl X) (G := xG X) hq86
            refine s_callV (pc := 84) (As := [.int q82]) (st := []) (nlt rfl) (q := (RX12, TX12, 59)) rfl rfl o81 cl_X12_must wi_X12_must wl_X12_must km_X12_256 rfl rfl (Nat.le_trans (nle rfl : _ ≤ 105) (Nat.le_add_right 105 _)) (nle rfl) (nle rfl) dX12_readPlain_84 hC87 ?_
            have h88 := hC87.1 X
            have o89 := h88.ok o81
            show S0 X _ q85 87 [some (.ref (gh (xG X) + a0)), some (.int p1), none, none] [] _
            refine s_goto (pc := 87) 133 dX12_readPlain_87 rfl ?_
            exact s_vret rfl dX12_readPlain_133
          · exact s_vret rfl dX12_readPlain_60
        · refine s_icne (pc := 46) 53 dX12_readPlain_46 rfl ?_ ?_
          · exact s_drop (hj68 x7 Le.rf) (And.intro rfl (And.intro rfl trivial))
          · refine s_aload_n (pc := 49) 0 dX12_readPlain_49 rfl rfl ?_
            refine s_bind (fun q90 hq91 => ?_)
            have hC92 := t_X12_faults (l := xl X) (G := xG X) hq91
            refine s_callV (pc := 50) (As := []) (st := []) (nlt rfl) (q := (RX12, TX12, 59)) rfl rfl o15 cl_X12_faults wi_X12_faults wl_X12_faults km_X12_243 rfl rfl (Nat.le_trans (nle rfl : _ ≤ 105) (Nat.le_add_right 105 _)) (nle rfl) (nle rfl) dX12_readPlain_50 hC92 ?_
            have h93 := hC92.1 X
            have o94 := h93.ok o15
            show S0 X _ q90 53 [some (.ref (gh (xG X) + a0)), some (.int p1), none, some (.int x22)] [] _
            exact s_drop (hj68 q90 h93) (And.intro rfl (And.intro rfl trivial))
    · exact s_vret rfl dX12_readPlain_23
  · show S0 X _ s1.1 2 [some (.ref (gh (xG X) + a0)), some (.int p1), some (.int s1.2), none] [] _
    refine s_iload_n (pc := 2) 2 dX12_readPlain_2 rfl rfl ?_
    refine s_ifeq (pc := 3) 16 dX12_readPlain_3 rfl ?_ ?_
    · exact s_drop (hR6 s1.1 hs2) (And.intro rfl (And.intro rfl trivial))
    · refine s_aload_n (pc := 6) 0 dX12_readPlain_6 rfl rfl ?_
      refine s_bipush (pc := 7) 6 dX12_readPlain_7 kb_6 ?_
      refine s_grd (fun o9 => ?_)
      refine s_bind (fun q10 hq11 => ?_)
      have hC12 := t_X12_takes0 (l := xl X) (G := xG X) hq11
      refine s_callV (pc := 9) (As := [.int 6]) (st := []) (nlt rfl) (q := (RX12, TX12, 59)) rfl rfl o9 cl_X12_takes0 wi_X12_takes0 wl_X12_takes0 km_X12_240 rfl rfl (Nat.le_trans (nle rfl : _ ≤ 105) (Nat.le_add_right 105 _)) (nle rfl) (nle rfl) dX12_readPlain_9 hC12 ?_
      have h13 := hC12.1 X
      have o14 := h13.ok o9
      show S0 X _ q10.1 12 [some (.ref (gh (xG X) + a0)), some (.int p1), some (.int s1.2), none] [.int q10.2] _
      refine s_istore_n (pc := 12) 2 dX12_readPlain_12 rfl (nlt rfl) rfl (L' := [some (.ref (gh (xG X) + a0)), some (.int p1), some (.int q10.2), none]) rfl ?_
      refine s_goto (pc := 13) 2 dX12_readPlain_13 rfl ?_
      exact s_drop (hT4 (q10.1, q10.2) (hs2.tr h13)) (And.intro rfl (And.intro rfl (And.intro rfl trivial)))
set_option maxRecDepth 100000 in
set_option maxHeartbeats 8000000 in
noncomputable def b_X12_readTest (g_X12_readBoth : Mem → Nat → Int32 → Option Mem) (M : Mem) (a0 : Nat) (p1 : Int32) : Option Mem :=
  grd (okO M 12 a0) (Option.bind (g_X12_readBoth M a0 p1) (fun q2 => Option.bind (loopO (σ := Mem) (ρ := Mem) (fun s7 => Option.bind (f_X12_takes0 s7 a0 4) (fun q16 => if q16.2 = 0 then (some (.inr q16.1)) else (Option.bind (g_X12_readBoth q16.1 a0 p1) (fun q21 => some (.inl q21))))) q2) (fun (x14 : Mem) => some x14)))
set_option maxRecDepth 100000 in
set_option maxHeartbeats 8000000 in
theorem t_X12_readTest {d : Nat} {g_X12_readBoth : Mem → Nat → Int32 → Option Mem} {l : Launch} {G : Gh} {M : Mem} {a0 : Nat} {p1 : Int32} {q : Mem} (hg_X12_readBoth : ∀ X : Ctx, xG X = G → xl X = l → ∀ (M : Mem) (a0 : Nat) (p1 : Int32) (q : Mem), g_X12_readBoth M a0 p1 = some q → Ctr (xl X) (xG X) yX12_readBoth (Y_X12_readBoth d) M [.ref (gh (xG X) + a0), .int p1] q (none)) (h : b_X12_readTest g_X12_readBoth M a0 p1 = some q) : Ctr l G yX12_readTest (Y_X12_readTest (d + 1)) M [.ref (gh G + a0), .int p1] q (none) := by
  refine Ctr.of (Y := (Y_X12_readTest (d + 1))) (L := [some (.ref (gh G + a0)), some (.int p1)]) (t := Option.bind (b_X12_readTest g_X12_readBoth M a0 p1) (fun q => some (q, (none : Option Value)))) (by decide) rfl rfl (nle rfl) (Lof_in 0 _ rfl) (fun X hG hl => ?_) (by rw [h]; rfl)
  subst hG
  subst hl
  unfold b_X12_readTest
  refine s_aload_n (pc := 0) 0 dX12_readTest_0 rfl rfl ?_
  refine s_iload_n (pc := 1) 1 dX12_readTest_1 rfl rfl ?_
  refine s_grd (fun o1 => ?_)
  refine s_bind (fun q2 hq3 => ?_)
  have hC4 := hg_X12_readBoth X rfl rfl M a0 p1 q2 hq3
  refine s_callV (pc := 2) (As := [.int p1]) (st := []) (nlt rfl) (q := (RX12, TX12, 59)) rfl rfl o1 cl_X12_readBoth wi_X12_readBoth wl_X12_readBoth km_X12_272 rfl rfl (Nat.le_refl _) (nle rfl) (nle rfl) dX12_readTest_2 hC4 ?_
  have h5 := hC4.1 X
  have o6 := h5.ok o1
  show S0 X _ q2 5 [some (.ref (gh (xG X) + a0)), some (.int p1)] [] _
  refine s_drop (L' := [some (.ref (gh (xG X) + a0)), some (.int p1)]) ?_ (And.intro rfl (And.intro rfl trivial))
  refine s_loop1 q2 (fun s7 : Mem => s7) (fun s7 : Mem => [some (.ref (gh (xG X) + a0)), some (.int p1)]) (fun x14 : Mem => x14) 21 (fun x14 : Mem => [none, none]) (fun x14 hx15 => ?_) (fun T9 R11 hT10 hR12 s7 hs8 => ?_) q2 Le.rf
  · show S0 X _ x14 21 [none, none] [] _
    exact s_vret rfl dX12_readTest_21
  · show S0 X _ s7 5 [some (.ref (gh (xG X) + a0)), some (.int p1)] [] _
    have o13 := hs8.ok o6
    refine s_aload_n (pc := 5) 0 dX12_readTest_5 rfl rfl ?_
    refine s_iconst (pc := 6) 4 dX12_readTest_6 kc_4 ?_
    refine s_bind (fun q16 hq17 => ?_)
    have hC18 := t_X12_takes0 (l := xl X) (G := xG X) hq17
    refine s_callV (pc := 7) (As := [.int 4]) (st := []) (nlt rfl) (q := (RX12, TX12, 59)) rfl rfl o13 cl_X12_takes0 wi_X12_takes0 wl_X12_takes0 km_X12_240 rfl rfl (Nat.le_trans (nle rfl : _ ≤ 105) (Nat.le_add_right 105 _)) (nle rfl) (nle rfl) dX12_readTest_7 hC18 ?_
    have h19 := hC18.1 X
    have o20 := h19.ok o13
    show S0 X _ q16.1 10 [some (.ref (gh (xG X) + a0)), some (.int p1)] [.int q16.2] _
    refine s_ifeq (pc := 10) 21 dX12_readTest_10 rfl ?_ ?_
    · exact s_drop (hR12 q16.1 (hs8.tr h19)) trivial
    · refine s_aload_n (pc := 13) 0 dX12_readTest_13 rfl rfl ?_
      refine s_iload_n (pc := 14) 1 dX12_readTest_14 rfl rfl ?_
      refine s_bind (fun q21 hq22 => ?_)
      have hC23 := hg_X12_readBoth X rfl rfl q16.1 a0 p1 q21 hq22
      refine s_callV (pc := 15) (As := [.int p1]) (st := []) (nlt rfl) (q := (RX12, TX12, 59)) rfl rfl o20 cl_X12_readBoth wi_X12_readBoth wl_X12_readBoth km_X12_272 rfl rfl (Nat.le_refl _) (nle rfl) (nle rfl) dX12_readTest_15 hC23 ?_
      have h24 := hC23.1 X
      have o25 := h24.ok o20
      show S0 X _ q21 18 [some (.ref (gh (xG X) + a0)), some (.int p1)] [] _
      refine s_goto (pc := 18) 5 dX12_readTest_18 rfl ?_
      exact s_drop (hT10 q21 (hs8.tr (h19.tr h24))) (And.intro rfl (And.intro rfl trivial))
noncomputable def G_X12_readBoth : Nat → (Mem → Nat → Int32 → Option Mem) × (Mem → Nat → Int32 → Option Mem) × (Mem → Nat → Int32 → Option Mem)
  | 0 => ((fun _ _ _ => none), (fun _ _ _ => none), (fun _ _ _ => none))
  | d + 1 => (b_X12_readBoth ((G_X12_readBoth d).2.1), b_X12_readPlain ((G_X12_readBoth d).2.2), b_X12_readTest ((G_X12_readBoth d).1))
noncomputable def f_X12_readBoth (d : Nat) : Mem → Nat → Int32 → Option Mem := (G_X12_readBoth d).1
noncomputable def f_X12_readPlain (d : Nat) : Mem → Nat → Int32 → Option Mem := (G_X12_readBoth d).2.1
noncomputable def f_X12_readTest (d : Nat) : Mem → Nat → Int32 → Option Mem := (G_X12_readBoth d).2.2
set_option maxRecDepth 100000 in
theorem tg_X12_readBoth {l : Launch} {G : Gh} : ∀ d : Nat, (∀ (M : Mem) (a0 : Nat) (p1 : Int32) (q : Mem), f_X12_readBoth d M a0 p1 = some q → Ctr l G yX12_readBoth (Y_X12_readBoth d) M [.ref (gh G + a0), .int p1] q (none)) ∧ (∀ (M : Mem) (a0 : Nat) (p1 : Int32) (q : Mem), f_X12_readPlain d M a0 p1 = some q → Ctr l G yX12_readPlain (Y_X12_readPlain d) M [.ref (gh G + a0), .int p1] q (none)) ∧ (∀ (M : Mem) (a0 : Nat) (p1 : Int32) (q : Mem), f_X12_readTest d M a0 p1 = some q → Ctr l G yX12_readTest (Y_X12_readTest d) M [.ref (gh G + a0), .int p1] q (none)) := by
  intro d
  induction d with
  | zero => refine ⟨?_, ?_, ?_⟩ <;> (intros; rename_i h; cases h)
  | succ d ih =>
    obtain ⟨h0, h1, h2⟩ := ih
    refine ⟨?_, ?_, ?_⟩
    · intro M a0 p1 q h
      exact t_X12_readBoth (fun X hG hl => by subst hG; subst hl; exact h1) h
    · intro M a0 p1 q h
      exact t_X12_readPlain (fun X hG hl => by subst hG; subst hl; exact h2) h
    · intro M a0 p1 q h
      exact t_X12_readTest (fun X hG hl => by subst hG; subst hl; exact h0) h
set_option maxRecDepth 100000 in
theorem tf_X12_readBoth {l : Launch} {G : Gh} {M : Mem} {a0 : Nat} {p1 : Int32} {q : Mem} (h : f_X12_readBoth 100 M a0 p1 = some q) : Ctr l G yX12_readBoth (Y_X12_readBoth 100) M [.ref (gh G + a0), .int p1] q (none) := (tg_X12_readBoth 100).1 _ _ _ _ h
set_option maxRecDepth 100000 in
theorem tf_X12_readPlain {l : Launch} {G : Gh} {M : Mem} {a0 : Nat} {p1 : Int32} {q : Mem} (h : f_X12_readPlain 100 M a0 p1 = some q) : Ctr l G yX12_readPlain (Y_X12_readPlain 100) M [.ref (gh G + a0), .int p1] q (none) := (tg_X12_readBoth 100).2.1 _ _ _ _ h
set_option maxRecDepth 100000 in
theorem tf_X12_readTest {l : Launch} {G : Gh} {M : Mem} {a0 : Nat} {p1 : Int32} {q : Mem} (h : f_X12_readTest 100 M a0 p1 = some q) : Ctr l G yX12_readTest (Y_X12_readTest 100) M [.ref (gh G + a0), .int p1] q (none) := (tg_X12_readBoth 100).2.2 _ _ _ _ h
set_option maxRecDepth 100000 in
set_option maxHeartbeats 8000000 in
noncomputable def f_X7_how (M : Mem) (a0 : Nat) : Option (Mem × Int32) :=
  grd (okO M 7 a0) (bv (fun (s3 : Unit) => Option.bind (f_X7_fail M a0) (fun q6 => grd (bl q6.2) (some (q6.1, q6.2)))) (fun j2 => if (mI M a0 8) < 267 then (j2 ()) else (if (mI M a0 8) ≤ 271 then (bv ((mI M a0 8) - 267 : Int32) (fun x12 => Option.bind (mR M a0 3) (fun r13 => grd (okO M 9 r13) (Option.bind (f_X9_set M r13 0 x12) (fun q15 => Option.bind (f_X7_next q15 a0) (fun q20 => bv (fun (s26 : Mem) => if (mI s26 a0 8) = 266 then (Option.bind (f_X7_next s26 a0) (fun q30 => Option.bind (f_X7_sumFor q30 a0 5) (fun q35 => grd (bl q35.2) (some (q35.1, q35.2))))) else (Option.bind (f_X7_fail s26 a0) (fun q41 => grd (bl q41.2) (some (q41.1, q41.2))))) (fun j25 => if x12 = 1 then (Option.bind (f_X7_sumFor q20 a0 4) (fun q47 => if q47.2 = 0 then (some (q47.1, 0)) else (j25 q47.1))) else (j25 q20)))))))) else (j2 ()))))
abbrev Y_X7_how : Sta := (RX7, "how", cX7_how, 2, (some .boolean), 105)
set_option maxRecDepth 100000 in
set_option maxHeartbeats 8000000 in
theorem t_X7_how {l : Launch} {G : Gh} {M : Mem} {a0 : Nat} {q : Mem × Int32} (h : f_X7_how M a0 = some q) : Ctr l G yX7_how Y_X7_how M [.ref (gh G + a0)] q.1 (some (.int q.2)) := by
  refine Ctr.of (Y := Y_X7_how) (L := [some (.ref (gh G + a0)), none]) (t := Option.bind (f_X7_how M a0) (fun q => some (q.1, some (.int q.2)))) (by decide) rfl rfl (nle rfl) (Lof_in 1 _ rfl) (fun X hG hl => ?_) (by rw [h]; rfl)
  subst hG
  subst hl
  unfold f_X7_how
  refine s_aload_n (pc := 0) 0 dX7_how_0 rfl rfl ?_
  refine s_grd (fun o1 => ?_)
  refine s_geti (pc := 1) F_7 8 rfl o1 dX7_how_1 kf_X7_66 ?_
  refine s_sipush (pc := 4) 267 dX7_how_4 ks_267 ?_
  refine s_join M (fun s3 : Unit => M) 20 (fun s3 : Unit => [some (.ref (gh (xG X) + a0)), none]) (fun s3 : Unit => []) (fun s3 hs4 => ?_) (fun j2 hj5 => ?_)
  · show S0 X _ M 20 [some (.ref (gh (xG X) + a0)), none] [] _
    refine s_aload_n (pc := 20) 0 dX7_how_20 rfl rfl ?_
    refine s_bind (fun q6 hq7 => ?_)
    have hC8 := t_X7_fail (l := xl X) (G := xG X) hq7
    refine s_callV (pc := 21) (As := []) (st := []) (nlt rfl) (q := (RX7, TX7, 10)) rfl rfl o1 cl_X7_fail wi_X7_fail wl_X7_fail km_X7_76 rfl rfl (nle rfl) (nle rfl) (nle rfl) dX7_how_21 hC8 ?_
    have h9 := hC8.1 X
    have o10 := h9.ok o1
    show S0 X _ q6.1 24 [some (.ref (gh (xG X) + a0)), none] [.int q6.2] _
    refine s_grd (fun g11 => ?_)
    exact s_zret rfl g11 dX7_how_24
  · refine s_iclt (pc := 7) 20 dX7_how_7 rfl ?_ ?_
    · exact s_drop (hj5 () Le.rf) (And.intro rfl trivial)
    · refine s_aload_n (pc := 10) 0 dX7_how_10 rfl rfl ?_
      refine s_geti (pc := 11) F_7 8 rfl o1 dX7_how_11 kf_X7_66 ?_
      refine s_sipush (pc := 14) 271 dX7_how_14 ks_271 ?_
      refine s_icle (pc := 17) 25 dX7_how_17 rfl ?_ ?_
      · refine s_aload_n (pc := 25) 0 dX7_how_25 rfl rfl ?_
        refine s_geti (pc := 26) F_7 8 rfl o1 dX7_how_26 kf_X7_66 ?_
        refine s_sipush (pc := 29) 267 dX7_how_29 ks_267 ?_
        refine s_isub (pc := 32) dX7_how_32 ?_
        refine s_istore_n (pc := 33) 1 dX7_how_33 rfl (nlt rfl) rfl (L' := [some (.ref (gh (xG X) + a0)), some (.int ((mI M a0 8) - 267))]) rfl ?_
        refine s_bv (fun x12 : Int32 => [some (.ref (gh (xG X) + a0)), some (.int x12)]) (fun x12 => ?_) rfl
        refine s_aload_n (pc := 34) 0 dX7_how_34 rfl rfl ?_
        refine s_geto (pc := 35) F_7 3 rfl o1 dX7_how_35 kf_X7_26 ?_
        refine s_rvB (fun r13 => ?_)
        refine s_iconst (pc := 38) 0 dX7_how_38 kc_0 ?_
        refine s_iload_n (pc := 39) 1 dX7_how_39 rfl rfl ?_
        refine s_grd (fun o14 => ?_)
        refine s_bind (fun q15 hq16 => ?_)
        have hC17 := t_X9_set (l := xl X) (G := xG X) hq16
        refine s_callV (pc := 40) (As := [.int 0, .int x12]) (st := []) (nlt rfl) (q := (RX9, TX9, 5)) rfl rfl o14 cl_X9_set wi_X9_set wl_X9_set km_X7_123 rfl rfl (nle rfl) (nle rfl) (nle rfl) dX7_how_40 hC17 ?_
        have h18 := hC17.1 X
        have o19 := h18.ok o1
        show S0 X _ q15 43 [some (.ref (gh (xG X) + a0)), some (.int x12)] [] _
        refine s_aload_n (pc := 43) 0 dX7_how_43 rfl rfl ?_
        refine s_bind (fun q20 hq21 => ?_)
        have hC22 := t_X7_next (l := xl X) (G := xG X) hq21
        refine s_callV (pc := 44) (As := []) (st := []) (nlt rfl) (q := (RX7, TX7, 10)) rfl rfl o19 cl_X7_next wi_X7_next wl_X7_next km_X7_79 rfl rfl (nle rfl) (nle rfl) (nle rfl) dX7_how_44 hC22 ?_
        have h23 := hC22.1 X
        have o24 := h23.ok o19
        show S0 X _ q20 47 [some (.ref (gh (xG X) + a0)), some (.int x12)] [] _
        refine s_iload_n (pc := 47) 1 dX7_how_47 rfl rfl ?_
        refine s_iconst (pc := 48) 1 dX7_how_48 kc_1 ?_
        refine s_join q20 (fun s26 : Mem => s26) 62 (fun s26 : Mem => [some (.ref (gh (xG X) + a0)), none]) (fun s26 : Mem => []) (fun s26 hs27 => ?_) (fun j25 hj28 => ?_)
        · show S0 X _ s26 62 [some (.ref (gh (xG X) + a0)), none] [] _
          have o29 := hs27.ok o24
          refine s_aload_n (pc := 62) 0 dX7_how_62 rfl rfl ?_
          refine s_geti (pc := 63) F_7 8 rfl o29 dX7_how_63 kf_X7_66 ?_
          refine s_sipush (pc := 66) 266 dX7_how_66 ks_266 ?_
          refine s_iceq (pc := 69) 77 dX7_how_69 rfl ?_ ?_
          · refine s_aload_n (pc := 77) 0 dX7_how_77 rfl rfl ?_
            refine s_bind (fun q30 hq31 => ?_)
            have hC32 := t_X7_next (l := xl X) (G := xG X) hq31
            refine s_callV (pc := 78) (As := []) (st := []) (nlt rfl) (q := (RX7, TX7, 10)) rfl rfl o29 cl_X7_next wi_X7_next wl_X7_next km_X7_79 rfl rfl (nle rfl) (nle rfl) (nle rfl) dX7_how_78 hC32 ?_
            have h33 := hC32.1 X
            have o34 := h33.ok o29
            show S0 X _ q30 81 [some (.ref (gh (xG X) + a0)), none] [] _
            refine s_aload_n (pc := 81) 0 dX7_how_81 rfl rfl ?_
            refine s_iconst (pc := 82) 5 dX7_how_82 kc_5 ?_
            refine s_bind (fun q35 hq36 => ?_)
            have hC37 := t_X7_sumFor (l := xl X) (G := xG X) hq36
            refine s_callV (pc := 83) (As := [.int 5]) (st := []) (nlt rfl) (q := (RX7, TX7, 10)) rfl rfl o34 cl_X7_sumFor wi_X7_sumFor wl_X7_sumFor km_X7_114 rfl rfl (nle rfl) (nle rfl) (nle rfl) dX7_how_83 hC37 ?_
            have h38 := hC37.1 X
            have o39 := h38.ok o34
            show S0 X _ q35.1 86 [some (.ref (gh (xG X) + a0)), none] [.int q35.2] _
            refine s_grd (fun g40 => ?_)
            exact s_zret rfl g40 dX7_how_86
          · refine s_aload_n (pc := 72) 0 dX7_how_72 rfl rfl ?_
            refine s_bind (fun q41 hq42 => ?_)
            have hC43 := t_X7_fail (l := xl X) (G := xG X) hq42
            refine s_callV (pc := 73) (As := []) (st := []) (nlt rfl) (q := (RX7, TX7, 10)) rfl rfl o29 cl_X7_fail wi_X7_fail wl_X7_fail km_X7_76 rfl rfl (nle rfl) (nle rfl) (nle rfl) dX7_how_73 hC43 ?_
            have h44 := hC43.1 X
            have o45 := h44.ok o29
            show S0 X _ q41.1 76 [some (.ref (gh (xG X) + a0)), none] [.int q41.2] _
            refine s_grd (fun g46 => ?_)
            exact s_zret rfl g46 dX7_how_76
        · refine s_icne (pc := 49) 62 dX7_how_49 rfl ?_ ?_
          · exact s_drop (hj28 q20 Le.rf) (And.intro rfl trivial)
          · refine s_aload_n (pc := 52) 0 dX7_how_52 rfl rfl ?_
            refine s_iconst (pc := 53) 4 dX7_how_53 kc_4 ?_
            refine s_bind (fun q47 hq48 => ?_)
            have hC49 := t_X7_sumFor (l := xl X) (G := xG X) hq48
            refine s_callV (pc := 54) (As := [.int 4]) (st := []) (nlt rfl) (q := (RX7, TX7, 10)) rfl rfl o24 cl_X7_sumFor wi_X7_sumFor wl_X7_sumFor km_X7_114 rfl rfl (nle rfl) (nle rfl) (nle rfl) dX7_how_54 hC49 ?_
            have h50 := hC49.1 X
            have o51 := h50.ok o24
            show S0 X _ q47.1 57 [some (.ref (gh (xG X) + a0)), some (.int x12)] [.int q47.2] _
            refine s_ifne (pc := 57) 62 dX7_how_57 rfl ?_ ?_
            · exact s_drop (hj28 q47.1 h50) (And.intro rfl trivial)
            · refine s_iconst (pc := 60) 0 dX7_how_60 kc_0 ?_
              exact s_zret rfl rfl dX7_how_61
      · exact s_drop (hj5 () Le.rf) (And.intro rfl trivial)
set_option maxRecDepth 100000 in
set_option maxHeartbeats 8000000 in
noncomputable def f_X12_goesAlong (M : Mem) (a0 : Nat) (p1 : Int32) (p2 : Int32) : Option Mem :=
  grd (okO M 12 a0) (bv (wI M a0 29 1) (fun M2 => bv (wI M2 a0 27 p1) (fun M6 => Option.bind (mR M6 a0 31) (fun r10 => Option.bind (mR M6 a0 3) (fun r11 => grd (okO M6 14 r11) (grd (vp_in 54 (mL M6 r11)) (grd (okO M6 14 r10) (grd (vp_in 0 (mL M6 r10)) (bv (wI M6 r10 (0 : Int32).toNatClampNeg (mI M6 r11 (54 : Int32).toNatClampNeg)) (fun M16 => Option.bind (mR M16 a0 31) (fun r20 => Option.bind (mR M16 a0 3) (fun r21 => grd (okO M16 14 r21) (grd (vp_in 56 (mL M16 r21)) (grd (okO M16 14 r20) (grd (vp_in 1 (mL M16 r20)) (bv (wI M16 r20 (1 : Int32).toNatClampNeg (mI M16 r21 (56 : Int32).toNatClampNeg)) (fun M26 => Option.bind (mR M26 a0 31) (fun r30 => grd (okO M26 14 r30) (grd (vp_in 2 (mL M26 r30)) (bv (wI M26 r30 (2 : Int32).toNatClampNeg (mI M26 a0 47)) (fun M33 => Option.bind (mR M33 a0 31) (fun r37 => grd (okO M33 14 r37) (grd (vp_in 3 (mL M33 r37)) (bv (wI M33 r37 (3 : Int32).toNatClampNeg (mI M33 a0 48)) (fun M40 => bv (wI M40 a0 26 (mI M40 a0 49)) (fun M44 => Option.bind (f_X12_codeAt M44 a0 (mI M44 a0 26)) (fun q48 => bv (wI M44 a0 51 q48) (fun M51 => bv (wI M51 a0 26 ((mI M51 a0 26) + 1)) (fun M55 => bv (wI M55 a0 53 1) (fun M59 => Option.bind (mR M59 a0 55) (fun r63 => grd (okO M59 15 r63) (grd (vp_in 1 (mL M59 r63)) (bv (wJ M59 r63 (1 : Int32).toNatClampNeg 0) (fun M66 => Option.bind (f_X12_nextSum M66 a0 0 p2) (fun q70 => bv (fun (s76 : Mem) => bv (wI s76 a0 50 1) (fun M80 => Option.bind (f_X12_passes0 M80 a0 26) (fun q84 => bv (fun (s90 : Mem) => bv (wI s90 a0 28 0) (fun M94 => Option.bind (f_X12_passes0 M94 a0 3) (fun q98 => bv (fun (s104 : Mem × Int32) => grd (pb s104.2) (bv (wI s104.1 a0 54 s104.2) (fun M108 => bv (fun (s114 : Int32) => grd (pb s114) (bv (wI M108 a0 54 s114) (fun M117 => bv (wI M117 a0 26 ((mI M117 a0 26) + 1)) (fun M122 => some M122)))) (fun j113 => bv (fun (s127 : Unit) => j113 0) (fun j126 => if (mI M108 a0 54) = 0 then (j126 ()) else (if (mI M108 a0 28) = 0 then (j113 1) else (j126 ()))))))) (fun j103 => bv (fun (s131 : Mem) => j103 (s131, 1)) (fun j130 => if q98.2 = 0 then (j130 q98.1) else (Option.bind (f_X12_testOf 100 q98.1 a0 p2) (fun q135 => if q135.2 = 0 then (j103 (q135.1, 0)) else (j130 q135.1)))))))) (fun j89 => if q84.2 = 0 then (j89 q84.1) else (Option.bind (mR q84.1 a0 3) (fun r140 => grd (okO q84.1 14 r140) (grd (vp_in (2866 + (mI q84.1 a0 26)) (mL q84.1 r140)) (bv (wI q84.1 a0 50 (mI q84.1 r140 (2866 + (mI q84.1 a0 26)).toNatClampNeg)) (fun M143 => bv (wI M143 a0 26 ((mI M143 a0 26) + 1)) (fun M147 => j89 M147)))))))))) (fun j75 => if (mI q70 a0 51) = 19 then (Option.bind (f_X12_codeAt q70 a0 (mI q70 a0 26)) (fun q151 => bv (wI q70 a0 26 ((mI q70 a0 26) + 1)) (fun M154 => bv (fun (s159 : Int32) => bv (wI M154 a0 52 s159) (fun M162 => bv (fun (s167 : Mem) => bv (wI s167 a0 26 ((mI s167 a0 26) + 1)) (fun M171 => Option.bind (f_X12_nextSum M171 a0 2 p2) (fun q175 => j75 q175))) (fun j166 => if (mI M162 a0 52) = 1 then (Option.bind (f_X12_nextSum M162 a0 1 p2) (fun q180 => j166 q180)) else (j166 M162)))) (fun j158 => if q151 = 20 then (j158 0) else (if q151 = 24 then (j158 1) else (if q151 = 21 then (j158 2) else (if q151 = 22 then (j158 3) else (j158 4)))))))) else (j75 q70)))))))))))))))))))))))))))))))))))))
abbrev Y_X12_goesAlong : Sta := (RX12, "goesAlong", cX12_goesAlong, 4, none, 205)
set_option maxRecDepth 100000 in
set_option maxHeartbeats 8000000 in
theorem t_X12_goesAlong {l : Launch} {G : Gh} {M : Mem} {a0 : Nat} {p1 : Int32} {p2 : Int32} {q : Mem} (h : f_X12_goesAlong M a0 p1 p2 = some q) : Ctr l G yX12_goesAlong Y_X12_goesAlong M [.ref (gh G + a0), .int p1, .int p2] q (none) := by
  refine Ctr.of (Y := Y_X12_goesAlong) (L := [some (.ref (gh G + a0)), some (.int p1), some (.int p2), none]) (t := Option.bind (f_X12_goesAlong M a0 p1 p2) (fun q => some (q, (none : Option Value)))) (by decide) rfl rfl (nle rfl) (Lof_in 1 _ rfl) (fun X hG hl => ?_) (by rw [h]; rfl)
  subst hG
  subst hl
  unfold f_X12_goesAlong
  refine s_aload_n (pc := 0) 0 dX12_goesAlong_0 rfl rfl ?_
  refine s_iconst (pc := 1) 1 dX12_goesAlong_1 kc_1 ?_
  refine s_grd (fun o1 => ?_)
  refine s_puti (pc := 2) F_12 29 rfl o1 rfl rfl (by decide) dX12_goesAlong_2 kf_X12_339 (fun M2 hM3 => ?_)
  have h4 := le_wI hM3
  have o5 := h4.ok o1
  refine s_aload_n (pc := 5) 0 dX12_goesAlong_5 rfl rfl ?_
  refine s_iload_n (pc := 6) 1 dX12_goesAlong_6 rfl rfl ?_
  refine s_puti (pc := 7) F_12 27 rfl o5 rfl rfl rfl dX12_goesAlong_7 kf_X12_306 (fun M6 hM7 => ?_)
  have h8 := le_wI hM7
  have o9 := h8.ok o5
  refine s_aload_n (pc := 10) 0 dX12_goesAlong_10 rfl rfl ?_
  refine s_geto (pc := 11) F_12 31 rfl o9 dX12_goesAlong_11 kf_X12_64 ?_
  refine s_rvB (fun r10 => ?_)
  refine s_iconst (pc := 14) 0 dX12_goesAlong_14 kc_0 ?_
  refine s_aload_n (pc := 15) 0 dX12_goesAlong_15 rfl rfl ?_
  refine s_geto (pc := 16) F_12 3 rfl o9 dX12_goesAlong_16 kf_X12_20 ?_
  refine s_rvB (fun r11 => ?_)
  refine s_bipush (pc := 19) 54 dX12_goesAlong_19 kb_54 ?_
  refine s_grd (fun o12 => ?_)
  refine s_grd (fun i13 => ?_)
  refine s_iald (pc := 21) o12 i13 dX12_goesAlong_21 ?_
  refine s_grd (fun o14 => ?_)
  refine s_grd (fun i15 => ?_)
  refine s_iast (pc := 22) o14 i15 dX12_goesAlong_22 (fun M16 hM17 => ?_)
  have h18 := le_wI hM17
  have o19 := h18.ok o9
  refine s_aload_n (pc := 23) 0 dX12_goesAlong_23 rfl rfl ?_
  refine s_geto (pc := 24) F_12 31 rfl o19 dX12_goesAlong_24 kf_X12_64 ?_
  refine s_rvB (fun r20 => ?_)
  refine s_iconst (pc := 27) 1 dX12_goesAlong_27 kc_1 ?_
  refine s_aload_n (pc := 28) 0 dX12_goesAlong_28 rfl rfl ?_
  refine s_geto (pc := 29) F_12 3 rfl o19 dX12_goesAlong_29 kf_X12_20 ?_
  refine s_rvB (fun r21 => ?_)
  refine s_bipush (pc := 32) 56 dX12_goesAlong_32 kb_56 ?_
  refine s_grd (fun o22 => ?_)
  refine s_grd (fun i23 => ?_)
  refine s_iald (pc := 34) o22 i23 dX12_goesAlong_34 ?_
  refine s_grd (fun o24 => ?_)
  refine s_grd (fun i25 => ?_)
  refine s_iast (pc := 35) o24 i25 dX12_goesAlong_35 (fun M26 hM27 => ?_)
  have h28 := le_wI hM27
  have o29 := h28.ok o19
  refine s_aload_n (pc := 36) 0 dX12_goesAlong_36 rfl rfl ?_
  refine s_geto (pc := 37) F_12 31 rfl o29 dX12_goesAlong_37 kf_X12_64 ?_
  refine s_rvB (fun r30 => ?_)
  refine s_iconst (pc := 40) 2 dX12_goesAlong_40 kc_2 ?_
  refine s_aload_n (pc := 41) 0 dX12_goesAlong_41 rfl rfl ?_
  refine s_geti (pc := 42) F_12 47 rfl o29 dX12_goesAlong_42 kf_X12_419 ?_
  refine s_grd (fun o31 => ?_)
  refine s_grd (fun i32 => ?_)
  refine s_iast (pc := 45) o31 i32 dX12_goesAlong_45 (fun M33 hM34 => ?_)
  have h35 := le_wI hM34
  have o36 := h35.ok o29
  refine s_aload_n (pc := 46) 0 dX12_goesAlong_46 rfl rfl ?_
  refine s_geto (pc := 47) F_12 31 rfl o36 dX12_goesAlong_47 kf_X12_64 ?_
  refine s_rvB (fun r37 => ?_)
  refine s_iconst (pc := 50) 3 dX12_goesAlong_50 kc_3 ?_
  refine s_aload_n (pc := 51) 0 dX12_goesAlong_51 rfl rfl ?_
  refine s_geti (pc := 52) F_12 48 rfl o36 dX12_goesAlong_52 kf_X12_422 ?_
  refine s_grd (fun o38 => ?_)
  refine s_grd (fun i39 => ?_)
  refine s_iast (pc := 55) o38 i39 dX12_goesAlong_55 (fun M40 hM41 => ?_)
  have h42 := le_wI hM41
  have o43 := h42.ok o36
  refine s_aload_n (pc := 56) 0 dX12_goesAlong_56 rfl rfl ?_
  refine s_aload_n (pc := 57) 0 dX12_goesAlong_57 rfl rfl ?_
  refine s_geti (pc := 58) F_12 49 rfl o43 dX12_goesAlong_58 kf_X12_425 ?_
  refine s_puti (pc := 61) F_12 26 rfl o43 rfl rfl rfl dX12_goesAlong_61 kf_X12_309 (fun M44 hM45 => ?_)
  have h46 := le_wI hM45
  have o47 := h46.ok o43
  refine s_aload_n (pc := 64) 0 dX12_goesAlong_64 rfl rfl ?_
  refine s_aload_n (pc := 65) 0 dX12_goesAlong_65 rfl rfl ?_
  refine s_aload_n (pc := 66) 0 dX12_goesAlong_66 rfl rfl ?_
  refine s_geti (pc := 67) F_12 26 rfl o47 dX12_goesAlong_67 kf_X12_309 ?_
  refine s_bind (fun q48 hq49 => ?_)
  have hC50 := t_X12_codeAt (l := xl X) (G := xG X) hq49
  refine s_callV (pc := 70) (As := [.int (mI M44 a0 26)]) (st := [.ref (gh (xG X) + a0)]) (nlt rfl) (q := (RX12, TX12, 59)) rfl rfl o47 cl_X12_codeAt wi_X12_codeAt wl_X12_codeAt km_X12_312 rfl rfl (nle rfl) (nle rfl) (nle rfl) dX12_goesAlong_70 hC50 ?_
  show S0 X _ M44 73 [some (.ref (gh (xG X) + a0)), some (.int p1), some (.int p2), none] [.int q48, .ref (gh (xG X) + a0)] _
  refine s_puti (pc := 73) F_12 51 rfl o47 rfl rfl rfl dX12_goesAlong_73 kf_X12_434 (fun M51 hM52 => ?_)
  have h53 := le_wI hM52
  have o54 := h53.ok o47
  refine s_aload_n (pc := 76) 0 dX12_goesAlong_76 rfl rfl ?_
  refine s_dup (pc := 77) dX12_goesAlong_77 rfl ?_
  refine s_geti (pc := 78) F_12 26 rfl o54 dX12_goesAlong_78 kf_X12_309 ?_
  refine s_iconst (pc := 81) 1 dX12_goesAlong_81 kc_1 ?_
  refine s_iadd (pc := 82) dX12_goesAlong_82 ?_
  refine s_puti (pc := 83) F_12 26 rfl o54 rfl rfl rfl dX12_goesAlong_83 kf_X12_309 (fun M55 hM56 => ?_)
  have h57 := le_wI hM56
  have o58 := h57.ok o54
  refine s_aload_n (pc := 86) 0 dX12_goesAlong_86 rfl rfl ?_
  refine s_iconst (pc := 87) 1 dX12_goesAlong_87 kc_1 ?_
  refine s_puti (pc := 88) F_12 53 rfl o58 rfl rfl (by decide) dX12_goesAlong_88 kf_X12_431 (fun M59 hM60 => ?_)
  have h61 := le_wI hM60
  have o62 := h61.ok o58
  refine s_aload_n (pc := 91) 0 dX12_goesAlong_91 rfl rfl ?_
  refine s_geto (pc := 92) F_12 55 rfl o62 dX12_goesAlong_92 kf_X12_114 ?_
  refine s_rvB (fun r63 => ?_)
  refine s_iconst (pc := 95) 1 dX12_goesAlong_95 kc_1 ?_
  refine s_lconst (pc := 96) 0 dX12_goesAlong_96 kl_0 ?_
  refine s_grd (fun o64 => ?_)
  refine s_grd (fun i65 => ?_)
  refine s_last (pc := 97) o64 i65 dX12_goesAlong_97 (fun M66 hM67 => ?_)
  have h68 := le_wJ hM67
  have o69 := h68.ok o62
  refine s_aload_n (pc := 98) 0 dX12_goesAlong_98 rfl rfl ?_
  refine s_iconst (pc := 99) 0 dX12_goesAlong_99 kc_0 ?_
  refine s_iload_n (pc := 100) 2 dX12_goesAlong_100 rfl rfl ?_
  refine s_bind (fun q70 hq71 => ?_)
  have hC72 := t_X12_nextSum (l := xl X) (G := xG X) hq71
  refine s_callV (pc := 101) (As := [.int 0, .int p2]) (st := []) (nlt rfl) (q := (RX12, TX12, 59)) rfl rfl o69 cl_X12_nextSum wi_X12_nextSum wl_X12_nextSum km_X12_437 rfl rfl (nle rfl) (nle rfl) (nle rfl) dX12_goesAlong_101 hC72 ?_
  have h73 := hC72.1 X
  have o74 := h73.ok o69
  show S0 X _ q70 104 [some (.ref (gh (xG X) + a0)), some (.int p1), some (.int p2), none] [] _
  refine s_aload_n (pc := 104) 0 dX12_goesAlong_104 rfl rfl ?_
  refine s_geti (pc := 105) F_12 51 rfl o74 dX12_goesAlong_105 kf_X12_434 ?_
  refine s_bipush (pc := 108) 19 dX12_goesAlong_108 kb_19 ?_
  refine s_join q70 (fun s76 : Mem => s76) 207 (fun s76 : Mem => [some (.ref (gh (xG X) + a0)), none, some (.int p2), none]) (fun s76 : Mem => []) (fun s76 hs77 => ?_) (fun j75 hj78 => ?_)
  · show S0 X _ s76 207 [some (.ref (gh (xG X) + a0)), none, some (.int p2), none] [] _
    have o79 := hs77.ok o74
    refine s_aload_n (pc := 207) 0 dX12_goesAlong_207 rfl rfl ?_
    refine s_iconst (pc := 208) 1 dX12_goesAlong_208 kc_1 ?_
    refine s_puti (pc := 209) F_12 50 rfl o79 rfl rfl rfl dX12_goesAlong_209 kf_X12_444 (fun M80 hM81 => ?_)
    have h82 := le_wI hM81
    have o83 := h82.ok o79
    refine s_aload_n (pc := 212) 0 dX12_goesAlong_212 rfl rfl ?_
    refine s_bipush (pc := 213) 26 dX12_goesAlong_213 kb_26 ?_
    refine s_bind (fun q84 hq85 => ?_)
    have hC86 := t_X12_passes0 (l := xl X) (G := xG X) hq85
    refine s_callV (pc := 215) (As := [.int 26]) (st := []) (nlt rfl) (q := (RX12, TX12, 59)) rfl rfl o83 cl_X12_passes0 wi_X12_passes0 wl_X12_passes0 km_X12_333 rfl rfl (nle rfl) (nle rfl) (nle rfl) dX12_goesAlong_215 hC86 ?_
    have h87 := hC86.1 X
    have o88 := h87.ok o83
    show S0 X _ q84.1 218 [some (.ref (gh (xG X) + a0)), none, some (.int p2), none] [.int q84.2] _
    refine s_join q84.1 (fun s90 : Mem => s90) 248 (fun s90 : Mem => [some (.ref (gh (xG X) + a0)), none, some (.int p2), none]) (fun s90 : Mem => []) (fun s90 hs91 => ?_) (fun j89 hj92 => ?_)
    · show S0 X _ s90 248 [some (.ref (gh (xG X) + a0)), none, some (.int p2), none] [] _
      have o93 := hs91.ok o88
      refine s_aload_n (pc := 248) 0 dX12_goesAlong_248 rfl rfl ?_
      refine s_iconst (pc := 249) 0 dX12_goesAlong_249 kc_0 ?_
      refine s_puti (pc := 250) F_12 28 rfl o93 rfl rfl (by decide) dX12_goesAlong_250 kf_X12_319 (fun M94 hM95 => ?_)
      have h96 := le_wI hM95
      have o97 := h96.ok o93
      refine s_aload_n (pc := 253) 0 dX12_goesAlong_253 rfl rfl ?_
      refine s_aload_n (pc := 254) 0 dX12_goesAlong_254 rfl rfl ?_
      refine s_iconst (pc := 255) 3 dX12_goesAlong_255 kc_3 ?_
      refine s_bind (fun q98 hq99 => ?_)
      have hC100 := t_X12_passes0 (l := xl X) (G := xG X) hq99
      refine s_callV (pc := 256) (As := [.int 3]) (st := [.ref (gh (xG X) + a0)]) (nlt rfl) (q := (RX12, TX12, 59)) rfl rfl o97 cl_X12_passes0 wi_X12_passes0 wl_X12_passes0 km_X12_333 rfl rfl (nle rfl) (nle rfl) (nle rfl) dX12_goesAlong_256 hC100 ?_
      have h101 := hC100.1 X
      have o102 := h101.ok o97
      show S0 X _ q98.1 259 [some (.ref (gh (xG X) + a0)), none, some (.int p2), none] [.int q98.2, .ref (gh (xG X) + a0)] _
      refine s_join q98.1 (fun s104 : Mem × Int32 => s104.1) 275 (fun s104 : Mem × Int32 => [some (.ref (gh (xG X) + a0)), none, none, none]) (fun s104 : Mem × Int32 => [.int s104.2, .ref (gh (xG X) + a0)]) (fun s104 hs105 => ?_) (fun j103 hj106 => ?_)
      · show S0 X _ s104.1 275 [some (.ref (gh (xG X) + a0)), none, none, none] [.int s104.2, .ref (gh (xG X) + a0)] _
        have o107 := hs105.ok o102
        refine s_grd (fun g111 => ?_)
        refine s_puti (pc := 275) F_12 54 rfl o107 rfl g111.1 g111.2 dX12_goesAlong_275 kf_X12_447 (fun M108 hM109 => ?_)
        have h110 := le_wI hM109
        have o112 := h110.ok o107
        refine s_aload_n (pc := 278) 0 dX12_goesAlong_278 rfl rfl ?_
        refine s_aload_n (pc := 279) 0 dX12_goesAlong_279 rfl rfl ?_
        refine s_geti (pc := 280) F_12 54 rfl o112 dX12_goesAlong_280 kf_X12_447 ?_
        refine s_join M108 (fun s114 : Int32 => M108) 298 (fun s114 : Int32 => [some (.ref (gh (xG X) + a0)), none, none, none]) (fun s114 : Int32 => [.int s114, .ref (gh (xG X) + a0)]) (fun s114 hs115 => ?_) (fun j113 hj116 => ?_)
        · show S0 X _ M108 298 [some (.ref (gh (xG X) + a0)), none, none, none] [.int s114, .ref (gh (xG X) + a0)] _
          refine s_grd (fun g120 => ?_)
          refine s_puti (pc := 298) F_12 54 rfl o112 rfl g120.1 g120.2 dX12_goesAlong_298 kf_X12_447 (fun M117 hM118 => ?_)
          have h119 := le_wI hM118
          have o121 := h119.ok o112
          refine s_aload_n (pc := 301) 0 dX12_goesAlong_301 rfl rfl ?_
          refine s_dup (pc := 302) dX12_goesAlong_302 rfl ?_
          refine s_geti (pc := 303) F_12 26 rfl o121 dX12_goesAlong_303 kf_X12_309 ?_
          refine s_iconst (pc := 306) 1 dX12_goesAlong_306 kc_1 ?_
          refine s_iadd (pc := 307) dX12_goesAlong_307 ?_
          refine s_puti (pc := 308) F_12 26 rfl o121 rfl rfl rfl dX12_goesAlong_308 kf_X12_309 (fun M122 hM123 => ?_)
          have h124 := le_wI hM123
          have o125 := h124.ok o121
          exact s_vret rfl dX12_goesAlong_311
        · refine s_join M108 (fun s127 : Unit => M108) 297 (fun s127 : Unit => [some (.ref (gh (xG X) + a0)), none, none, none]) (fun s127 : Unit => [.ref (gh (xG X) + a0)]) (fun s127 hs128 => ?_) (fun j126 hj129 => ?_)
          · show S0 X _ M108 297 [some (.ref (gh (xG X) + a0)), none, none, none] [.ref (gh (xG X) + a0)] _
            refine s_iconst (pc := 297) 0 dX12_goesAlong_297 kc_0 ?_
            exact s_drop (hj116 0 Le.rf) (And.intro rfl trivial)
          · refine s_ifeq (pc := 283) 297 dX12_goesAlong_283 rfl ?_ ?_
            · exact s_drop (hj129 () Le.rf) (And.intro rfl trivial)
            · refine s_aload_n (pc := 286) 0 dX12_goesAlong_286 rfl rfl ?_
              refine s_geti (pc := 287) F_12 28 rfl o112 dX12_goesAlong_287 kf_X12_319 ?_
              refine s_ifne (pc := 290) 297 dX12_goesAlong_290 rfl ?_ ?_
              · exact s_drop (hj129 () Le.rf) (And.intro rfl trivial)
              · refine s_iconst (pc := 293) 1 dX12_goesAlong_293 kc_1 ?_
                refine s_goto (pc := 294) 298 dX12_goesAlong_294 rfl ?_
                exact s_drop (hj116 1 Le.rf) (And.intro rfl trivial)
      · refine s_join q98.1 (fun s131 : Mem => s131) 270 (fun s131 : Mem => [some (.ref (gh (xG X) + a0)), none, none, none]) (fun s131 : Mem => [.ref (gh (xG X) + a0)]) (fun s131 hs132 => ?_) (fun j130 hj133 => ?_)
        · show S0 X _ s131 270 [some (.ref (gh (xG X) + a0)), none, none, none] [.ref (gh (xG X) + a0)] _
          have o134 := hs132.ok o102
          refine s_iconst (pc := 270) 1 dX12_goesAlong_270 kc_1 ?_
          refine s_goto (pc := 271) 275 dX12_goesAlong_271 rfl ?_
          exact s_drop (hj106 (s131, 1) hs132) (And.intro rfl trivial)
        · refine s_ifeq (pc := 259) 270 dX12_goesAlong_259 rfl ?_ ?_
          · exact s_drop (hj133 q98.1 Le.rf) (And.intro rfl trivial)
          · refine s_aload_n (pc := 262) 0 dX12_goesAlong_262 rfl rfl ?_
            refine s_iload_n (pc := 263) 2 dX12_goesAlong_263 rfl rfl ?_
            refine s_bind (fun q135 hq136 => ?_)
            have hC137 := tf_X12_testOf (l := xl X) (G := xG X) hq136
            refine s_callV (pc := 264) (As := [.int p2]) (st := [.ref (gh (xG X) + a0)]) (nlt rfl) (q := (RX12, TX12, 59)) rfl rfl o102 cl_X12_testOf wi_X12_testOf wl_X12_testOf km_X12_354 rfl rfl (nle rfl) (nle rfl) (nle rfl) dX12_goesAlong_264 hC137 ?_
            have h138 := hC137.1 X
            have o139 := h138.ok o102
            show S0 X _ q135.1 267 [some (.ref (gh (xG X) + a0)), none, some (.int p2), none] [.int q135.2, .ref (gh (xG X) + a0)] _
            refine s_ifeq (pc := 267) 274 dX12_goesAlong_267 rfl ?_ ?_
            · refine s_iconst (pc := 274) 0 dX12_goesAlong_274 kc_0 ?_
              exact s_drop (hj106 (q135.1, 0) h138) (And.intro rfl trivial)
            · exact s_drop (hj133 q135.1 h138) (And.intro rfl trivial)
    · refine s_ifeq (pc := 218) 248 dX12_goesAlong_218 rfl ?_ ?_
      · exact s_drop (hj92 q84.1 Le.rf) (And.intro rfl (And.intro rfl trivial))
      · refine s_aload_n (pc := 221) 0 dX12_goesAlong_221 rfl rfl ?_
        refine s_aload_n (pc := 222) 0 dX12_goesAlong_222 rfl rfl ?_
        refine s_geto (pc := 223) F_12 3 rfl o88 dX12_goesAlong_223 kf_X12_20 ?_
        refine s_rvB (fun r140 => ?_)
        refine s_sipush (pc := 226) 2866 dX12_goesAlong_226 ks_2866 ?_
        refine s_aload_n (pc := 229) 0 dX12_goesAlong_229 rfl rfl ?_
        refine s_geti (pc := 230) F_12 26 rfl o88 dX12_goesAlong_230 kf_X12_309 ?_
        refine s_iadd (pc := 233) dX12_goesAlong_233 ?_
        refine s_grd (fun o141 => ?_)
        refine s_grd (fun i142 => ?_)
        refine s_iald (pc := 234) o141 i142 dX12_goesAlong_234 ?_
        refine s_puti (pc := 235) F_12 50 rfl o88 rfl rfl rfl dX12_goesAlong_235 kf_X12_444 (fun M143 hM144 => ?_)
        have h145 := le_wI hM144
        have o146 := h145.ok o88
        refine s_aload_n (pc := 238) 0 dX12_goesAlong_238 rfl rfl ?_
        refine s_dup (pc := 239) dX12_goesAlong_239 rfl ?_
        refine s_geti (pc := 240) F_12 26 rfl o146 dX12_goesAlong_240 kf_X12_309 ?_
        refine s_iconst (pc := 243) 1 dX12_goesAlong_243 kc_1 ?_
        refine s_iadd (pc := 244) dX12_goesAlong_244 ?_
        refine s_puti (pc := 245) F_12 26 rfl o146 rfl rfl rfl dX12_goesAlong_245 kf_X12_309 (fun M147 hM148 => ?_)
        have h149 := le_wI hM148
        have o150 := h149.ok o146
        exact s_drop (hj92 M147 (h145.tr h149)) (And.intro rfl (And.intro rfl trivial))
  · refine s_icne (pc := 110) 207 dX12_goesAlong_110 rfl ?_ ?_
    · exact s_drop (hj78 q70 Le.rf) (And.intro rfl (And.intro rfl trivial))
    · refine s_aload_n (pc := 113) 0 dX12_goesAlong_113 rfl rfl ?_
      refine s_aload_n (pc := 114) 0 dX12_goesAlong_114 rfl rfl ?_
      refine s_geti (pc := 115) F_12 26 rfl o74 dX12_goesAlong_115 kf_X12_309 ?_
      refine s_bind (fun q151 hq152 => ?_)
      have hC153 := t_X12_codeAt (l := xl X) (G := xG X) hq152
      refine s_callV (pc := 118) (As := [.int (mI q70 a0 26)]) (st := []) (nlt rfl) (q := (RX12, TX12, 59)) rfl rfl o74 cl_X12_codeAt wi_X12_codeAt wl_X12_codeAt km_X12_312 rfl rfl (nle rfl) (nle rfl) (nle rfl) dX12_goesAlong_118 hC153 ?_
      show S0 X _ q70 121 [some (.ref (gh (xG X) + a0)), some (.int p1), some (.int p2), none] [.int q151] _
      refine s_istore_n (pc := 121) 3 dX12_goesAlong_121 rfl (nlt rfl) rfl (L' := [some (.ref (gh (xG X) + a0)), some (.int p1), some (.int p2), some (.int q151)]) rfl ?_
      refine s_aload_n (pc := 122) 0 dX12_goesAlong_122 rfl rfl ?_
      refine s_dup (pc := 123) dX12_goesAlong_123 rfl ?_
      refine s_geti (pc := 124) F_12 26 rfl o74 dX12_goesAlong_124 kf_X12_309 ?_
      refine s_iconst (pc := 127) 1 dX12_goesAlong_127 kc_1 ?_
      refine s_iadd (pc := 128) dX12_goesAlong_128 ?_
      refine s_puti (pc := 129) F_12 26 rfl o74 rfl rfl rfl dX12_goesAlong_129 kf_X12_309 (fun M154 hM155 => ?_)
      have h156 := le_wI hM155
      have o157 := h156.ok o74
      refine s_aload_n (pc := 132) 0 dX12_goesAlong_132 rfl rfl ?_
      refine s_iload_n (pc := 133) 3 dX12_goesAlong_133 rfl rfl ?_
      refine s_bipush (pc := 134) 20 dX12_goesAlong_134 kb_20 ?_
      refine s_join M154 (fun s159 : Int32 => M154) 174 (fun s159 : Int32 => [some (.ref (gh (xG X) + a0)), none, some (.int p2), none]) (fun s159 : Int32 => [.int s159, .ref (gh (xG X) + a0)]) (fun s159 hs160 => ?_) (fun j158 hj161 => ?_)
      · show S0 X _ M154 174 [some (.ref (gh (xG X) + a0)), none, some (.int p2), none] [.int s159, .ref (gh (xG X) + a0)] _
        refine s_puti (pc := 174) F_12 52 rfl o157 rfl rfl rfl dX12_goesAlong_174 kf_X12_441 (fun M162 hM163 => ?_)
        have h164 := le_wI hM163
        have o165 := h164.ok o157
        refine s_aload_n (pc := 177) 0 dX12_goesAlong_177 rfl rfl ?_
        refine s_geti (pc := 178) F_12 52 rfl o165 dX12_goesAlong_178 kf_X12_441 ?_
        refine s_iconst (pc := 181) 1 dX12_goesAlong_181 kc_1 ?_
        refine s_join M162 (fun s167 : Mem => s167) 191 (fun s167 : Mem => [some (.ref (gh (xG X) + a0)), none, some (.int p2), none]) (fun s167 : Mem => []) (fun s167 hs168 => ?_) (fun j166 hj169 => ?_)
        · show S0 X _ s167 191 [some (.ref (gh (xG X) + a0)), none, some (.int p2), none] [] _
          have o170 := hs168.ok o165
          refine s_aload_n (pc := 191) 0 dX12_goesAlong_191 rfl rfl ?_
          refine s_dup (pc := 192) dX12_goesAlong_192 rfl ?_
          refine s_geti (pc := 193) F_12 26 rfl o170 dX12_goesAlong_193 kf_X12_309 ?_
          refine s_iconst (pc := 196) 1 dX12_goesAlong_196 kc_1 ?_
          refine s_iadd (pc := 197) dX12_goesAlong_197 ?_
          refine s_puti (pc := 198) F_12 26 rfl o170 rfl rfl rfl dX12_goesAlong_198 kf_X12_309 (fun M171 hM172 => ?_)
          have h173 := le_wI hM172
          have o174 := h173.ok o170
          refine s_aload_n (pc := 201) 0 dX12_goesAlong_201 rfl rfl ?_
          refine s_iconst (pc := 202) 2 dX12_goesAlong_202 kc_2 ?_
          refine s_iload_n (pc := 203) 2 dX12_goesAlong_203 rfl rfl ?_
          refine s_bind (fun q175 hq176 => ?_)
          have hC177 := t_X12_nextSum (l := xl X) (G := xG X) hq176
          refine s_callV (pc := 204) (As := [.int 2, .int p2]) (st := []) (nlt rfl) (q := (RX12, TX12, 59)) rfl rfl o174 cl_X12_nextSum wi_X12_nextSum wl_X12_nextSum km_X12_437 rfl rfl (nle rfl) (nle rfl) (nle rfl) dX12_goesAlong_204 hC177 ?_
          have h178 := hC177.1 X
          have o179 := h178.ok o174
          show S0 X _ q175 207 [some (.ref (gh (xG X) + a0)), none, some (.int p2), none] [] _
          exact s_drop (hj78 q175 (h156.tr (h164.tr (hs168.tr (h173.tr h178))))) (And.intro rfl (And.intro rfl trivial))
        · refine s_icne (pc := 182) 191 dX12_goesAlong_182 rfl ?_ ?_
          · exact s_drop (hj169 M162 Le.rf) (And.intro rfl (And.intro rfl trivial))
          · refine s_aload_n (pc := 185) 0 dX12_goesAlong_185 rfl rfl ?_
            refine s_iconst (pc := 186) 1 dX12_goesAlong_186 kc_1 ?_
            refine s_iload_n (pc := 187) 2 dX12_goesAlong_187 rfl rfl ?_
            refine s_bind (fun q180 hq181 => ?_)
            have hC182 := t_X12_nextSum (l := xl X) (G := xG X) hq181
            refine s_callV (pc := 188) (As := [.int 1, .int p2]) (st := []) (nlt rfl) (q := (RX12, TX12, 59)) rfl rfl o165 cl_X12_nextSum wi_X12_nextSum wl_X12_nextSum km_X12_437 rfl rfl (nle rfl) (nle rfl) (nle rfl) dX12_goesAlong_188 hC182 ?_
            have h183 := hC182.1 X
            have o184 := h183.ok o165
            show S0 X _ q180 191 [some (.ref (gh (xG X) + a0)), none, some (.int p2), none] [] _
            exact s_drop (hj169 q180 h183) (And.intro rfl (And.intro rfl trivial))
      · refine s_icne (pc := 136) 143 dX12_goesAlong_136 rfl ?_ ?_
        · refine s_iload_n (pc := 143) 3 dX12_goesAlong_143 rfl rfl ?_
          refine s_bipush (pc := 144) 24 dX12_goesAlong_144 kb_24 ?_
          refine s_icne (pc := 146) 153 dX12_goesAlong_146 rfl ?_ ?_
          · refine s_iload_n (pc := 153) 3 dX12_goesAlong_153 rfl rfl ?_
            refine s_bipush (pc := 154) 21 dX12_goesAlong_154 kb_21 ?_
            refine s_icne (pc := 156) 163 dX12_goesAlong_156 rfl ?_ ?_
            · refine s_iload_n (pc := 163) 3 dX12_goesAlong_163 rfl rfl ?_
              refine s_bipush (pc := 164) 22 dX12_goesAlong_164 kb_22 ?_
              refine s_icne (pc := 166) 173 dX12_goesAlong_166 rfl ?_ ?_
              · refine s_iconst (pc := 173) 4 dX12_goesAlong_173 kc_4 ?_
                exact s_drop (hj161 4 Le.rf) (And.intro rfl (And.intro rfl trivial))
              · refine s_iconst (pc := 169) 3 dX12_goesAlong_169 kc_3 ?_
                refine s_goto (pc := 170) 174 dX12_goesAlong_170 rfl ?_
                exact s_drop (hj161 3 Le.rf) (And.intro rfl (And.intro rfl trivial))
            · refine s_iconst (pc := 159) 2 dX12_goesAlong_159 kc_2 ?_
              refine s_goto (pc := 160) 174 dX12_goesAlong_160 rfl ?_
              exact s_drop (hj161 2 Le.rf) (And.intro rfl (And.intro rfl trivial))
          · refine s_iconst (pc := 149) 1 dX12_goesAlong_149 kc_1 ?_
            refine s_goto (pc := 150) 174 dX12_goesAlong_150 rfl ?_
            exact s_drop (hj161 1 Le.rf) (And.intro rfl (And.intro rfl trivial))
        · refine s_iconst (pc := 139) 0 dX12_goesAlong_139 kc_0 ?_
          refine s_goto (pc := 140) 174 dX12_goesAlong_140 rfl ?_
          exact s_drop (hj161 0 Le.rf) (And.intro rfl (And.intro rfl trivial))
