set_option maxRecDepth 100000 in
set_option maxHeartbeats 8000000 in
noncomputable def f_X12_at (M : Mem) (a0 : Nat) (p1 : Int32) (p2 : Int32) : Option (Mem × Int32) :=
  grd (okO M 12 a0) (Option.bind (f_X12_isHouse M a0 p1) (fun q2 => if q2 = 0 then (some (M, (-1))) else (bv (fun (s6 : Unit) => Option.bind (f_X12_fact M a0 p1 p2) (fun q9 => some (M, q9))) (fun j5 => swO p2 (swC 0 [(48, j5 ()), (48, j5 ()), (48, j5 ()), (55, Option.bind (f_X12_daughters M a0 p1) (fun q12 => some (M, q12))), (61, Option.bind (f_X12_fact M a0 p1 0) (fun q15 => if q15 = (-1) then (some (M, (-1))) else (Option.bind (f_X12_fact M a0 p1 0) (fun q18 => Option.bind (f_X12_fact M a0 q18 2) (fun q21 => Option.bind (f_X12_fact M a0 p1 2) (fun q24 => Option.bind (f_X12_fact M a0 p1 1) (fun q27 => Option.bind (f_X12_stepsIn M a0 q21 q24 q27) (fun q30 => some (q30.1, q30.2))))))))), (103, Option.bind (f_X12_changedBack M a0 p1) (fun q35 => some (M, q35)))]) (some (M, (-1)))))))
abbrev Y_X12_at : Sta := (RX12, "at", cX12_at, 3, (some .int), 209)
set_option maxRecDepth 100000 in
set_option maxHeartbeats 8000000 in
theorem t_X12_at {l : Launch} {G : Gh} {M : Mem} {a0 : Nat} {p1 : Int32} {p2 : Int32} {q : Mem × Int32} (h : f_X12_at M a0 p1 p2 = some q) : Ctr l G yX12_at Y_X12_at M [.ref (gh G + a0), .int p1, .int p2] q.1 (some (.int q.2)) := by
  refine Ctr.of (Y := Y_X12_at) (L := [some (.ref (gh G + a0)), some (.int p1), some (.int p2)]) (t := Option.bind (f_X12_at M a0 p1 p2) (fun q => some (q.1, some (.int q.2)))) (by decide) rfl rfl (nle rfl) (Lof_in 0 _ rfl) (fun X hG hl => ?_) (by rw [h]; rfl)
  subst hG
  subst hl
  unfold f_X12_at
  refine s_aload_n (pc := 0) 0 dX12_at_0 rfl rfl ?_
  refine s_iload_n (pc := 1) 1 dX12_at_1 rfl rfl ?_
  refine s_grd (fun o1 => ?_)
  refine s_bind (fun q2 hq3 => ?_)
  have hC4 := t_X12_isHouse (l := xl X) (G := xG X) hq3
  refine s_callV (pc := 2) (As := [.int p1]) (st := []) (nlt rfl) (q := (RX12, TX12, 59)) rfl rfl o1 cl_X12_isHouse wi_X12_isHouse wl_X12_isHouse km_X12_191 rfl rfl (nle rfl) (nle rfl) (nle rfl) dX12_at_2 hC4 ?_
  show S0 X _ M 5 [some (.ref (gh (xG X) + a0)), some (.int p1), some (.int p2)] [.int q2] _
  refine s_ifne (pc := 5) 10 dX12_at_5 rfl ?_ ?_
  · refine s_iload_n (pc := 10) 2 dX12_at_10 rfl rfl ?_
    refine s_join M (fun s6 : Unit => M) 48 (fun s6 : Unit => [some (.ref (gh (xG X) + a0)), some (.int p1), some (.int p2)]) (fun s6 : Unit => []) (fun s6 hs7 => ?_) (fun j5 hj8 => ?_)
    · show S0 X _ M 48 [some (.ref (gh (xG X) + a0)), some (.int p1), some (.int p2)] [] _
      refine s_aload_n (pc := 48) 0 dX12_at_48 rfl rfl ?_
      refine s_iload_n (pc := 49) 1 dX12_at_49 rfl rfl ?_
      refine s_iload_n (pc := 50) 2 dX12_at_50 rfl rfl ?_
      refine s_bind (fun q9 hq10 => ?_)
      have hC11 := t_X12_fact (l := xl X) (G := xG X) hq10
      refine s_callV (pc := 51) (As := [.int p1, .int p2]) (st := []) (nlt rfl) (q := (RX12, TX12, 59)) rfl rfl o1 cl_X12_fact wi_X12_fact wl_X12_fact km_X12_194 rfl rfl (nle rfl) (nle rfl) (nle rfl) dX12_at_51 hC11 ?_
      show S0 X _ M 54 [some (.ref (gh (xG X) + a0)), some (.int p1), some (.int p2)] [.int q9] _
      exact s_iret rfl dX12_at_54
    · refine s_tsw (pc := 11) _ 109 dX12_at_11 rfl rfl (And.intro (by decide) (And.intro (by simp only [List.length_cons, List.length_nil]; decide) rfl)) ?_ ?_
      · refine (And.intro ?_ (And.intro ?_ (And.intro ?_ (And.intro ?_ (And.intro ?_ (And.intro ?_ trivial))))))
        · dsimp only
          exact s_drop (hj8 () Le.rf) (And.intro rfl (And.intro rfl (And.intro rfl trivial)))
        · dsimp only
          exact s_drop (hj8 () Le.rf) (And.intro rfl (And.intro rfl (And.intro rfl trivial)))
        · dsimp only
          exact s_drop (hj8 () Le.rf) (And.intro rfl (And.intro rfl (And.intro rfl trivial)))
        · dsimp only
          refine s_aload_n (pc := 55) 0 dX12_at_55 rfl rfl ?_
          refine s_iload_n (pc := 56) 1 dX12_at_56 rfl rfl ?_
          refine s_bind (fun q12 hq13 => ?_)
          have hC14 := t_X12_daughters (l := xl X) (G := xG X) hq13
          refine s_callV (pc := 57) (As := [.int p1]) (st := []) (nlt rfl) (q := (RX12, TX12, 59)) rfl rfl o1 cl_X12_daughters wi_X12_daughters wl_X12_daughters km_X12_371 rfl rfl (nle rfl) (nle rfl) (nle rfl) dX12_at_57 hC14 ?_
          show S0 X _ M 60 [some (.ref (gh (xG X) + a0)), some (.int p1), some (.int p2)] [.int q12] _
          exact s_iret rfl dX12_at_60
        · dsimp only
          refine s_aload_n (pc := 61) 0 dX12_at_61 rfl rfl ?_
          refine s_iload_n (pc := 62) 1 dX12_at_62 rfl rfl ?_
          refine s_iconst (pc := 63) 0 dX12_at_63 kc_0 ?_
          refine s_bind (fun q15 hq16 => ?_)
          have hC17 := t_X12_fact (l := xl X) (G := xG X) hq16
          refine s_callV (pc := 64) (As := [.int p1, .int 0]) (st := []) (nlt rfl) (q := (RX12, TX12, 59)) rfl rfl o1 cl_X12_fact wi_X12_fact wl_X12_fact km_X12_194 rfl rfl (nle rfl) (nle rfl) (nle rfl) dX12_at_64 hC17 ?_
          show S0 X _ M 67 [some (.ref (gh (xG X) + a0)), some (.int p1), some (.int p2)] [.int q15] _
          refine s_iconst (pc := 67) (-1) dX12_at_67 kc_m1 ?_
          refine s_icne (pc := 68) 75 dX12_at_68 rfl ?_ ?_
          · refine s_aload_n (pc := 75) 0 dX12_at_75 rfl rfl ?_
            refine s_aload_n (pc := 76) 0 dX12_at_76 rfl rfl ?_
            refine s_aload_n (pc := 77) 0 dX12_at_77 rfl rfl ?_
            refine s_iload_n (pc := 78) 1 dX12_at_78 rfl rfl ?_
            refine s_iconst (pc := 79) 0 dX12_at_79 kc_0 ?_
            refine s_bind (fun q18 hq19 => ?_)
            have hC20 := t_X12_fact (l := xl X) (G := xG X) hq19
            refine s_callV (pc := 80) (As := [.int p1, .int 0]) (st := [.ref (gh (xG X) + a0), .ref (gh (xG X) + a0)]) (nlt rfl) (q := (RX12, TX12, 59)) rfl rfl o1 cl_X12_fact wi_X12_fact wl_X12_fact km_X12_194 rfl rfl (nle rfl) (nle rfl) (nle rfl) dX12_at_80 hC20 ?_
            show S0 X _ M 83 [some (.ref (gh (xG X) + a0)), some (.int p1), some (.int p2)] [.int q18, .ref (gh (xG X) + a0), .ref (gh (xG X) + a0)] _
            refine s_iconst (pc := 83) 2 dX12_at_83 kc_2 ?_
            refine s_bind (fun q21 hq22 => ?_)
            have hC23 := t_X12_fact (l := xl X) (G := xG X) hq22
            refine s_callV (pc := 84) (As := [.int q18, .int 2]) (st := [.ref (gh (xG X) + a0)]) (nlt rfl) (q := (RX12, TX12, 59)) rfl rfl o1 cl_X12_fact wi_X12_fact wl_X12_fact km_X12_194 rfl rfl (nle rfl) (nle rfl) (nle rfl) dX12_at_84 hC23 ?_
            show S0 X _ M 87 [some (.ref (gh (xG X) + a0)), some (.int p1), some (.int p2)] [.int q21, .ref (gh (xG X) + a0)] _
            refine s_aload_n (pc := 87) 0 dX12_at_87 rfl rfl ?_
            refine s_iload_n (pc := 88) 1 dX12_at_88 rfl rfl ?_
            refine s_iconst (pc := 89) 2 dX12_at_89 kc_2 ?_
            refine s_bind (fun q24 hq25 => ?_)
            have hC26 := t_X12_fact (l := xl X) (G := xG X) hq25
            refine s_callV (pc := 90) (As := [.int p1, .int 2]) (st := [.int q21, .ref (gh (xG X) + a0)]) (nlt rfl) (q := (RX12, TX12, 59)) rfl rfl o1 cl_X12_fact wi_X12_fact wl_X12_fact km_X12_194 rfl rfl (nle rfl) (nle rfl) (nle rfl) dX12_at_90 hC26 ?_
            show S0 X _ M 93 [some (.ref (gh (xG X) + a0)), some (.int p1), some (.int p2)] [.int q24, .int q21, .ref (gh (xG X) + a0)] _
            refine s_aload_n (pc := 93) 0 dX12_at_93 rfl rfl ?_
            refine s_iload_n (pc := 94) 1 dX12_at_94 rfl rfl ?_
            refine s_iconst (pc := 95) 1 dX12_at_95 kc_1 ?_
            refine s_bind (fun q27 hq28 => ?_)
            have hC29 := t_X12_fact (l := xl X) (G := xG X) hq28
            refine s_callV (pc := 96) (As := [.int p1, .int 1]) (st := [.int q24, .int q21, .ref (gh (xG X) + a0)]) (nlt rfl) (q := (RX12, TX12, 59)) rfl rfl o1 cl_X12_fact wi_X12_fact wl_X12_fact km_X12_194 rfl rfl (nle rfl) (nle rfl) (nle rfl) dX12_at_96 hC29 ?_
            show S0 X _ M 99 [some (.ref (gh (xG X) + a0)), some (.int p1), some (.int p2)] [.int q27, .int q24, .int q21, .ref (gh (xG X) + a0)] _
            refine s_bind (fun q30 hq31 => ?_)
            have hC32 := t_X12_stepsIn (l := xl X) (G := xG X) hq31
            refine s_callV (pc := 99) (As := [.int q21, .int q24, .int q27]) (st := []) (nlt rfl) (q := (RX12, TX12, 59)) rfl rfl o1 cl_X12_stepsIn wi_X12_stepsIn wl_X12_stepsIn km_X12_374 rfl rfl (nle rfl) (nle rfl) (nle rfl) dX12_at_99 hC32 ?_
            have h33 := hC32.1 X
            have o34 := h33.ok o1
            show S0 X _ q30.1 102 [some (.ref (gh (xG X) + a0)), some (.int p1), some (.int p2)] [.int q30.2] _
            exact s_iret rfl dX12_at_102
          · refine s_iconst (pc := 71) (-1) dX12_at_71 kc_m1 ?_
            refine s_goto (pc := 72) 102 dX12_at_72 rfl ?_
            exact s_iret rfl dX12_at_102
        · dsimp only
          refine s_aload_n (pc := 103) 0 dX12_at_103 rfl rfl ?_
          refine s_iload_n (pc := 104) 1 dX12_at_104 rfl rfl ?_
          refine s_bind (fun q35 hq36 => ?_)
          have hC37 := t_X12_changedBack (l := xl X) (G := xG X) hq36
          refine s_callV (pc := 105) (As := [.int p1]) (st := []) (nlt rfl) (q := (RX12, TX12, 59)) rfl rfl o1 cl_X12_changedBack wi_X12_changedBack wl_X12_changedBack km_X12_377 rfl rfl (nle rfl) (nle rfl) (nle rfl) dX12_at_105 hC37 ?_
          show S0 X _ M 108 [some (.ref (gh (xG X) + a0)), some (.int p1), some (.int p2)] [.int q35] _
          exact s_iret rfl dX12_at_108
      · refine s_iconst (pc := 109) (-1) dX12_at_109 kc_m1 ?_
        exact s_iret rfl dX12_at_110
  · refine s_iconst (pc := 8) (-1) dX12_at_8 kc_m1 ?_
    exact s_iret rfl dX12_at_9
set_option maxRecDepth 100000 in
set_option maxHeartbeats 8000000 in
noncomputable def f_X12_between (M : Mem) (a0 : Nat) (p1 : Int32) (p2 : Int32) : Option (Mem × Int32) :=
  grd (okO M 12 a0) (Option.bind (f_X12_isHouse M a0 p1) (fun q2 => if q2 = 0 then (some (M, (-1))) else (Option.bind (f_X12_fact M a0 p1 0) (fun q5 => if q5 = (-1) then (some (M, (-1))) else (Option.bind (f_X12_fact M a0 p1 0) (fun q8 => Option.bind (f_X12_fact M a0 q8 2) (fun q11 => Option.bind (f_X12_fact M a0 p1 1) (fun q14 => Option.bind (f_X12_lists M a0 q11 q14 0) (fun q17 => Option.bind (loopO (σ := Mem × Int32 × Int32) (ρ := Mem × Int32) (fun s22 => if (mI s22.1 a0 11) ≤ s22.2.2 then (some (.inr (s22.1, s22.2.1))) else (Option.bind (loopO (σ := Int32 × Int32) (ρ := Int32) (fun s31 => if s22.2.1 ≤ s31.2 then (some (.inr s31.1)) else (bv (fun (s40 : Int32) => bv (s31.2 + 1 : Int32) (fun x43 => some (.inl (s40, x43)))) (fun j39 => bv (fun (s45 : Unit) => j39 0) (fun j44 => if s31.1 = 0 then (j44 ()) else (Option.bind (mR s22.1 a0 38) (fun r48 => grd (okO s22.1 14 r48) (grd (vp_in s31.2 (mL s22.1 r48)) (Option.bind (mR s22.1 a0 9) (fun r51 => grd (okO s22.1 14 r51) (grd (vp_in s22.2.2 (mL s22.1 r51)) (if (mI s22.1 r48 s31.2.toNatClampNeg) = (mI s22.1 r51 s22.2.2.toNatClampNeg) then (j44 ()) else (j39 1)))))))))))) (1, 0)) (fun (x37 : Int32) => bv (fun (s55 : Mem × Int32) => bv (s22.2.2 + 1 : Int32) (fun x59 => some (.inl (s55.1, s55.2, x59)))) (fun j54 => if x37 = 0 then (j54 (s22.1, s22.2.1)) else (Option.bind (loopO (σ := Mem × Int32) (ρ := Mem × Int32) (fun s60 => if s60.2 ≤ 0 then (some (.inr (s60.1, s60.2))) else (Option.bind (mR s60.1 a0 38) (fun r69 => grd (okO s60.1 14 r69) (grd (vp_in (s60.2 - 1) (mL s60.1 r69)) (Option.bind (mR s60.1 a0 9) (fun r72 => grd (okO s60.1 14 r72) (grd (vp_in s22.2.2 (mL s60.1 r72)) (if (mI s60.1 r69 (s60.2 - 1).toNatClampNeg) ≤ (mI s60.1 r72 s22.2.2.toNatClampNeg) then (some (.inr (s60.1, s60.2))) else (Option.bind (mR s60.1 a0 38) (fun r75 => Option.bind (mR s60.1 a0 38) (fun r76 => grd (okO s60.1 14 r76) (grd (vp_in (s60.2 - 1) (mL s60.1 r76)) (grd (okO s60.1 14 r75) (grd (vp_in s60.2 (mL s60.1 r75)) (bv (wI s60.1 r75 s60.2.toNatClampNeg (mI s60.1 r76 (s60.2 - 1).toNatClampNeg)) (fun M81 => bv (s60.2 + (-1) : Int32) (fun x85 => some (.inl (M81, x85))))))))))))))))))) (s22.1, s22.2.1)) (fun (x67 : Mem × Int32) => Option.bind (mR x67.1 a0 38) (fun r87 => Option.bind (mR x67.1 a0 9) (fun r88 => grd (okO x67.1 14 r88) (grd (vp_in s22.2.2 (mL x67.1 r88)) (grd (okO x67.1 14 r87) (grd (vp_in x67.2 (mL x67.1 r87)) (bv (wI x67.1 r87 x67.2.toNatClampNeg (mI x67.1 r88 s22.2.2.toNatClampNeg)) (fun M93 => bv (s22.2.1 + 1 : Int32) (fun x97 => j54 (M93, x97))))))))))))))) (q17, 0, 0)) (fun (x29 : Mem × Int32) => Option.bind (loopO (σ := Mem × Int32 × Int32) (ρ := (Mem × Int32) ⊕ (Mem × Int32)) (fun s99 => if x29.2 ≤ s99.2.2 then (some (.inr (.inl (s99.1, s99.2.1)))) else (Option.bind (mR s99.1 a0 38) (fun r112 => grd (okO s99.1 14 r112) (grd (vp_in s99.2.2 (mL s99.1 r112)) (Option.bind (f_X12_fact s99.1 a0 p1 2) (fun q115 => Option.bind (f_X12_fact s99.1 a0 p1 1) (fun q118 => Option.bind (f_X12_leadsTo s99.1 a0 (mI s99.1 r112 s99.2.2.toNatClampNeg) q115 q118) (fun q121 => bv (fun (s127 : Int32) => bv (s99.2.2 + 1 : Int32) (fun x130 => some (.inl (q121.1, s127, x130)))) (fun j126 => if q121.2 = 0 then (j126 s99.2.1) else (if s99.2.1 = p2 then (some (.inr (.inr (q121.1, s99.2.2)))) else (bv (s99.2.1 + 1 : Int32) (fun x131 => j126 x131)))))))))))) (x29.1, 0, 0)) (Sum.elim (fun (x108 : Mem × Int32) => if p2 = (-1) then (some (x108.1, x108.2)) else (some (x108.1, (-1)))) (fun (x110 : Mem × Int32) => Option.bind (mR x110.1 a0 38) (fun r133 => grd (okO x110.1 14 r133) (grd (vp_in x110.2 (mL x110.1 r133)) (some (x110.1, mI x110.1 r133 x110.2.toNatClampNeg))))))))))))))))
abbrev Y_X12_between : Sta := (RX12, "between", cX12_between, 8, (some .int), 209)
set_option maxRecDepth 100000 in
set_option maxHeartbeats 8000000 in
theorem t_X12_between {l : Launch} {G : Gh} {M : Mem} {a0 : Nat} {p1 : Int32} {p2 : Int32} {q : Mem × Int32} (h : f_X12_between M a0 p1 p2 = some q) : Ctr l G yX12_between Y_X12_between M [.ref (gh G + a0), .int p1, .int p2] q.1 (some (.int q.2)) := by
  refine Ctr.of (Y := Y_X12_between) (L := [some (.ref (gh G + a0)), some (.int p1), some (.int p2), none, none, none, none, none]) (t := Option.bind (f_X12_between M a0 p1 p2) (fun q => some (q.1, some (.int q.2)))) (by decide) rfl rfl (nle rfl) (Lof_in 5 _ rfl) (fun X hG hl => ?_) (by rw [h]; rfl)
  subst hG
  subst hl
  unfold f_X12_between
  refine s_aload_n (pc := 0) 0 dX12_between_0 rfl rfl ?_
  refine s_iload_n (pc := 1) 1 dX12_between_1 rfl rfl ?_
  refine s_grd (fun o1 => ?_)
  refine s_bind (fun q2 hq3 => ?_)
  have hC4 := t_X12_isHouse (l := xl X) (G := xG X) hq3
  refine s_callV (pc := 2) (As := [.int p1]) (st := []) (nlt rfl) (q := (RX12, TX12, 59)) rfl rfl o1 cl_X12_isHouse wi_X12_isHouse wl_X12_isHouse km_X12_191 rfl rfl (nle rfl) (nle rfl) (nle rfl) dX12_between_2 hC4 ?_
  show S0 X _ M 5 [some (.ref (gh (xG X) + a0)), some (.int p1), some (.int p2), none, none, none, none, none] [.int q2] _
  refine s_ifeq (pc := 5) 18 dX12_between_5 rfl ?_ ?_
  · refine s_iconst (pc := 18) (-1) dX12_between_18 kc_m1 ?_
    exact s_iret rfl dX12_between_19
  · refine s_aload_n (pc := 8) 0 dX12_between_8 rfl rfl ?_
    refine s_iload_n (pc := 9) 1 dX12_between_9 rfl rfl ?_
    refine s_iconst (pc := 10) 0 dX12_between_10 kc_0 ?_
    refine s_bind (fun q5 hq6 => ?_)
    have hC7 := t_X12_fact (l := xl X) (G := xG X) hq6
    refine s_callV (pc := 11) (As := [.int p1, .int 0]) (st := []) (nlt rfl) (q := (RX12, TX12, 59)) rfl rfl o1 cl_X12_fact wi_X12_fact wl_X12_fact km_X12_194 rfl rfl (nle rfl) (nle rfl) (nle rfl) dX12_between_11 hC7 ?_
    show S0 X _ M 14 [some (.ref (gh (xG X) + a0)), some (.int p1), some (.int p2), none, none, none, none, none] [.int q5] _
    refine s_iconst (pc := 14) (-1) dX12_between_14 kc_m1 ?_
    refine s_icne (pc := 15) 20 dX12_between_15 rfl ?_ ?_
    · refine s_aload_n (pc := 20) 0 dX12_between_20 rfl rfl ?_
      refine s_aload_n (pc := 21) 0 dX12_between_21 rfl rfl ?_
      refine s_aload_n (pc := 22) 0 dX12_between_22 rfl rfl ?_
      refine s_iload_n (pc := 23) 1 dX12_between_23 rfl rfl ?_
      refine s_iconst (pc := 24) 0 dX12_between_24 kc_0 ?_
      refine s_bind (fun q8 hq9 => ?_)
      have hC10 := t_X12_fact (l := xl X) (G := xG X) hq9
      refine s_callV (pc := 25) (As := [.int p1, .int 0]) (st := [.ref (gh (xG X) + a0), .ref (gh (xG X) + a0)]) (nlt rfl) (q := (RX12, TX12, 59)) rfl rfl o1 cl_X12_fact wi_X12_fact wl_X12_fact km_X12_194 rfl rfl (nle rfl) (nle rfl) (nle rfl) dX12_between_25 hC10 ?_
      show S0 X _ M 28 [some (.ref (gh (xG X) + a0)), some (.int p1), some (.int p2), none, none, none, none, none] [.int q8, .ref (gh (xG X) + a0), .ref (gh (xG X) + a0)] _
      refine s_iconst (pc := 28) 2 dX12_between_28 kc_2 ?_
      refine s_bind (fun q11 hq12 => ?_)
      have hC13 := t_X12_fact (l := xl X) (G := xG X) hq12
      refine s_callV (pc := 29) (As := [.int q8, .int 2]) (st := [.ref (gh (xG X) + a0)]) (nlt rfl) (q := (RX12, TX12, 59)) rfl rfl o1 cl_X12_fact wi_X12_fact wl_X12_fact km_X12_194 rfl rfl (nle rfl) (nle rfl) (nle rfl) dX12_between_29 hC13 ?_
      show S0 X _ M 32 [some (.ref (gh (xG X) + a0)), some (.int p1), some (.int p2), none, none, none, none, none] [.int q11, .ref (gh (xG X) + a0)] _
      refine s_aload_n (pc := 32) 0 dX12_between_32 rfl rfl ?_
      refine s_iload_n (pc := 33) 1 dX12_between_33 rfl rfl ?_
      refine s_iconst (pc := 34) 1 dX12_between_34 kc_1 ?_
      refine s_bind (fun q14 hq15 => ?_)
      have hC16 := t_X12_fact (l := xl X) (G := xG X) hq15
      refine s_callV (pc := 35) (As := [.int p1, .int 1]) (st := [.int q11, .ref (gh (xG X) + a0)]) (nlt rfl) (q := (RX12, TX12, 59)) rfl rfl o1 cl_X12_fact wi_X12_fact wl_X12_fact km_X12_194 rfl rfl (nle rfl) (nle rfl) (nle rfl) dX12_between_35 hC16 ?_
      show S0 X _ M 38 [some (.ref (gh (xG X) + a0)), some (.int p1), some (.int p2), none, none, none, none, none] [.int q14, .int q11, .ref (gh (xG X) + a0)] _
      refine s_iconst (pc := 38) 0 dX12_between_38 kc_0 ?_
      refine s_bind (fun q17 hq18 => ?_)
      have hC19 := t_X12_lists (l := xl X) (G := xG X) hq18
      refine s_callV (pc := 39) (As := [.int q11, .int q14, .int 0]) (st := []) (nlt rfl) (q := (RX12, TX12, 59)) rfl rfl o1 cl_X12_lists wi_X12_lists wl_X12_lists km_X12_187 rfl rfl (nle rfl) (nle rfl) (nle rfl) dX12_between_39 hC19 ?_
      have h20 := hC19.1 X
      have o21 := h20.ok o1
      show S0 X _ q17 42 [some (.ref (gh (xG X) + a0)), some (.int p1), some (.int p2), none, none, none, none, none] [] _
      refine s_iconst (pc := 42) 0 dX12_between_42 kc_0 ?_
      refine s_istore_n (pc := 43) 3 dX12_between_43 rfl (nlt rfl) rfl (L' := [some (.ref (gh (xG X) + a0)), some (.int p1), some (.int p2), some (.int 0), none, none, none, none]) rfl ?_
      refine s_iconst (pc := 44) 0 dX12_between_44 kc_0 ?_
      refine s_istore (pc := 45) dX12_between_45 (nlt rfl) rfl (L' := [some (.ref (gh (xG X) + a0)), some (.int p1), some (.int p2), some (.int 0), some (.int 0), none, none, none]) rfl ?_
      refine s_drop (L' := [some (.ref (gh (xG X) + a0)), some (.int p1), some (.int p2), some (.int 0), some (.int 0), none, none, none]) ?_ (And.intro rfl (And.intro rfl (And.intro rfl (And.intro rfl (And.intro rfl trivial)))))
      refine s_loop1 q17 (fun s22 : Mem × Int32 × Int32 => s22.1) (fun s22 : Mem × Int32 × Int32 => [some (.ref (gh (xG X) + a0)), some (.int p1), some (.int p2), some (.int s22.2.1), some (.int s22.2.2), none, none, none]) (fun x29 : Mem × Int32 => x29.1) 183 (fun x29 : Mem × Int32 => [some (.ref (gh (xG X) + a0)), some (.int p1), some (.int p2), some (.int x29.2), none, none, none, none]) (fun x29 hx30 => ?_) (fun T24 R26 hT25 hR27 s22 hs23 => ?_) (q17, 0, 0) Le.rf
      · show S0 X _ x29.1 183 [some (.ref (gh (xG X) + a0)), some (.int p1), some (.int p2), some (.int x29.2), none, none, none, none] [] _
        have o98 := hx30.ok o21
        refine s_iconst (pc := 183) 0 dX12_between_183 kc_0 ?_
        refine s_istore (pc := 184) dX12_between_184 (nlt rfl) rfl (L' := [some (.ref (gh (xG X) + a0)), some (.int p1), some (.int p2), some (.int x29.2), some (.int 0), none, none, none]) rfl ?_
        refine s_iconst (pc := 186) 0 dX12_between_186 kc_0 ?_
        refine s_istore (pc := 187) dX12_between_187 (nlt rfl) rfl (L' := [some (.ref (gh (xG X) + a0)), some (.int p1), some (.int p2), some (.int x29.2), some (.int 0), some (.int 0), none, none]) rfl ?_
        refine s_drop (L' := [some (.ref (gh (xG X) + a0)), some (.int p1), some (.int p2), some (.int x29.2), some (.int 0), some (.int 0), none, none]) ?_ (And.intro rfl (And.intro rfl (And.intro rfl (And.intro rfl (And.intro rfl (And.intro rfl trivial))))))
        refine s_loop2 x29.1 (fun s99 : Mem × Int32 × Int32 => s99.1) (fun s99 : Mem × Int32 × Int32 => [some (.ref (gh (xG X) + a0)), some (.int p1), some (.int p2), some (.int x29.2), some (.int s99.2.1), some (.int s99.2.2), none, none]) (fun x108 : Mem × Int32 => x108.1) 247 (fun x108 : Mem × Int32 => [none, none, some (.int p2), none, some (.int x108.2), none, none, none]) (fun x110 : Mem × Int32 => x110.1) 230 (fun x110 : Mem × Int32 => [some (.ref (gh (xG X) + a0)), none, none, none, none, some (.int x110.2), none, none]) (fun x108 hx109 => ?_) (fun x110 hx111 => ?_) (fun T101 R103 R105 hT102 hR104 hR106 s99 hs100 => ?_) (x29.1, 0, 0) Le.rf
        · show S0 X _ x108.1 247 [none, none, some (.int p2), none, some (.int x108.2), none, none, none] [] _
          refine s_iload_n (pc := 247) 2 dX12_between_247 rfl rfl ?_
          refine s_iconst (pc := 248) (-1) dX12_between_248 kc_m1 ?_
          refine s_icne (pc := 249) 257 dX12_between_249 rfl ?_ ?_
          · refine s_iconst (pc := 257) (-1) dX12_between_257 kc_m1 ?_
            exact s_iret rfl dX12_between_258
          · refine s_iload (pc := 252) dX12_between_252 rfl ?_
            refine s_goto (pc := 254) 258 dX12_between_254 rfl ?_
            exact s_iret rfl dX12_between_258
        · show S0 X _ x110.1 230 [some (.ref (gh (xG X) + a0)), none, none, none, none, some (.int x110.2), none, none] [] _
          have o132 := hx111.ok o98
          refine s_aload_n (pc := 230) 0 dX12_between_230 rfl rfl ?_
          refine s_geto (pc := 231) F_12 38 rfl o132 dX12_between_231 kf_X12_86 ?_
          refine s_rvB (fun r133 => ?_)
          refine s_iload (pc := 234) dX12_between_234 rfl ?_
          refine s_grd (fun o134 => ?_)
          refine s_grd (fun i135 => ?_)
          refine s_iald (pc := 236) o134 i135 dX12_between_236 ?_
          exact s_iret rfl dX12_between_237
        · show S0 X _ s99.1 189 [some (.ref (gh (xG X) + a0)), some (.int p1), some (.int p2), some (.int x29.2), some (.int s99.2.1), some (.int s99.2.2), none, none] [] _
          have o107 := hs100.ok o98
          refine s_iload (pc := 189) dX12_between_189 rfl ?_
          refine s_iload_n (pc := 191) 3 dX12_between_191 rfl rfl ?_
          refine s_icge (pc := 192) 247 dX12_between_192 rfl ?_ ?_
          · exact s_drop (hR104 (s99.1, s99.2.1) hs100) (And.intro rfl (And.intro rfl trivial))
          · refine s_aload_n (pc := 195) 0 dX12_between_195 rfl rfl ?_
            refine s_aload_n (pc := 196) 0 dX12_between_196 rfl rfl ?_
            refine s_geto (pc := 197) F_12 38 rfl o107 dX12_between_197 kf_X12_86 ?_
            refine s_rvB (fun r112 => ?_)
            refine s_iload (pc := 200) dX12_between_200 rfl ?_
            refine s_grd (fun o113 => ?_)
            refine s_grd (fun i114 => ?_)
            refine s_iald (pc := 202) o113 i114 dX12_between_202 ?_
            refine s_aload_n (pc := 203) 0 dX12_between_203 rfl rfl ?_
            refine s_iload_n (pc := 204) 1 dX12_between_204 rfl rfl ?_
            refine s_iconst (pc := 205) 2 dX12_between_205 kc_2 ?_
            refine s_bind (fun q115 hq116 => ?_)
            have hC117 := t_X12_fact (l := xl X) (G := xG X) hq116
            refine s_callV (pc := 206) (As := [.int p1, .int 2]) (st := [.int (mI s99.1 r112 s99.2.2.toNatClampNeg), .ref (gh (xG X) + a0)]) (nlt rfl) (q := (RX12, TX12, 59)) rfl rfl o107 cl_X12_fact wi_X12_fact wl_X12_fact km_X12_194 rfl rfl (nle rfl) (nle rfl) (nle rfl) dX12_between_206 hC117 ?_
            show S0 X _ s99.1 209 [some (.ref (gh (xG X) + a0)), some (.int p1), some (.int p2), some (.int x29.2), some (.int s99.2.1), some (.int s99.2.2), none, none] [.int q115, .int (mI s99.1 r112 s99.2.2.toNatClampNeg), .ref (gh (xG X) + a0)] _
            refine s_aload_n (pc := 209) 0 dX12_between_209 rfl rfl ?_
            refine s_iload_n (pc := 210) 1 dX12_between_210 rfl rfl ?_
            refine s_iconst (pc := 211) 1 dX12_between_211 kc_1 ?_
            refine s_bind (fun q118 hq119 => ?_)
            have hC120 := t_X12_fact (l := xl X) (G := xG X) hq119
            refine s_callV (pc := 212) (As := [.int p1, .int 1]) (st := [.int q115, .int (mI s99.1 r112 s99.2.2.toNatClampNeg), .ref (gh (xG X) + a0)]) (nlt rfl) (q := (RX12, TX12, 59)) rfl rfl o107 cl_X12_fact wi_X12_fact wl_X12_fact km_X12_194 rfl rfl (nle rfl) (nle rfl) (nle rfl) dX12_between_212 hC120 ?_
            show S0 X _ s99.1 215 [some (.ref (gh (xG X) + a0)), some (.int p1), some (.int p2), some (.int x29.2), some (.int s99.2.1), some (.int s99.2.2), none, none] [.int q118, .int q115, .int (mI s99.1 r112 s99.2.2.toNatClampNeg), .ref (gh (xG X) + a0)] _
            refine s_bind (fun q121 hq122 => ?_)
            have hC123 := t_X12_leadsTo (l := xl X) (G := xG X) hq122
            refine s_callV (pc := 215) (As := [.int (mI s99.1 r112 s99.2.2.toNatClampNeg), .int q115, .int q118]) (st := []) (nlt rfl) (q := (RX12, TX12, 59)) rfl rfl o107 cl_X12_leadsTo wi_X12_leadsTo wl_X12_leadsTo km_X12_380 rfl rfl (nle rfl) (nle rfl) (nle rfl) dX12_between_215 hC123 ?_
            have h124 := hC123.1 X
            have o125 := h124.ok o107
            show S0 X _ q121.1 218 [some (.ref (gh (xG X) + a0)), some (.int p1), some (.int p2), some (.int x29.2), some (.int s99.2.1), some (.int s99.2.2), none, none] [.int q121.2] _
            refine s_join q121.1 (fun s127 : Int32 => q121.1) 241 (fun s127 : Int32 => [some (.ref (gh (xG X) + a0)), some (.int p1), some (.int p2), some (.int x29.2), some (.int s127), some (.int s99.2.2), none, none]) (fun s127 : Int32 => []) (fun s127 hs128 => ?_) (fun j126 hj129 => ?_)
            · show S0 X _ q121.1 241 [some (.ref (gh (xG X) + a0)), some (.int p1), some (.int p2), some (.int x29.2), some (.int s127), some (.int s99.2.2), none, none] [] _
              refine s_iinc (pc := 241) dX12_between_241 rfl (v := s99.2.2 + 1) (congrArg (fun z : Int32 => s99.2.2 + z) kc_1) (nlt rfl) rfl (L' := [some (.ref (gh (xG X) + a0)), some (.int p1), some (.int p2), some (.int x29.2), some (.int s127), some (.int (s99.2.2 + 1)), none, none]) rfl ?_
              refine s_bv (fun x130 : Int32 => [some (.ref (gh (xG X) + a0)), some (.int p1), some (.int p2), some (.int x29.2), some (.int s127), some (.int x130), none, none]) (fun x130 => ?_) rfl
              refine s_goto (pc := 244) 189 dX12_between_244 rfl ?_
              exact s_drop (hT102 (q121.1, s127, x130) (hs100.tr h124)) (And.intro rfl (And.intro rfl (And.intro rfl (And.intro rfl (And.intro rfl (And.intro rfl trivial))))))
            · refine s_ifne (pc := 218) 224 dX12_between_218 rfl ?_ ?_
              · refine s_iload (pc := 224) dX12_between_224 rfl ?_
                refine s_iload_n (pc := 226) 2 dX12_between_226 rfl rfl ?_
                refine s_icne (pc := 227) 238 dX12_between_227 rfl ?_ ?_
                · refine s_iinc (pc := 238) dX12_between_238 rfl (v := s99.2.1 + 1) (congrArg (fun z : Int32 => s99.2.1 + z) kc_1) (nlt rfl) rfl (L' := [some (.ref (gh (xG X) + a0)), some (.int p1), some (.int p2), some (.int x29.2), some (.int (s99.2.1 + 1)), some (.int s99.2.2), none, none]) rfl ?_
                  refine s_bv (fun x131 : Int32 => [some (.ref (gh (xG X) + a0)), some (.int p1), some (.int p2), some (.int x29.2), some (.int x131), some (.int s99.2.2), none, none]) (fun x131 => ?_) rfl
                  exact s_drop (hj129 x131 Le.rf) (And.intro rfl (And.intro rfl (And.intro rfl (And.intro rfl (And.intro rfl (And.intro rfl trivial))))))
                · exact s_drop (hR106 (q121.1, s99.2.2) (hs100.tr h124)) (And.intro rfl (And.intro rfl trivial))
              · refine s_goto (pc := 221) 241 dX12_between_221 rfl ?_
                exact s_drop (hj129 s99.2.1 Le.rf) (And.intro rfl (And.intro rfl (And.intro rfl (And.intro rfl (And.intro rfl (And.intro rfl trivial))))))
      · show S0 X _ s22.1 47 [some (.ref (gh (xG X) + a0)), some (.int p1), some (.int p2), some (.int s22.2.1), some (.int s22.2.2), none, none, none] [] _
        have o28 := hs23.ok o21
        refine s_iload (pc := 47) dX12_between_47 rfl ?_
        refine s_aload_n (pc := 49) 0 dX12_between_49 rfl rfl ?_
        refine s_geti (pc := 50) F_12 11 rfl o28 dX12_between_50 kf_X12_174 ?_
        refine s_icge (pc := 53) 183 dX12_between_53 rfl ?_ ?_
        · exact s_drop (hR27 (s22.1, s22.2.1) hs23) (And.intro rfl (And.intro rfl (And.intro rfl (And.intro rfl trivial))))
        · refine s_iload_n (pc := 56) 3 dX12_between_56 rfl rfl ?_
          refine s_istore (pc := 57) dX12_between_57 (nlt rfl) rfl (L' := [some (.ref (gh (xG X) + a0)), some (.int p1), some (.int p2), some (.int s22.2.1), some (.int s22.2.2), some (.int s22.2.1), none, none]) rfl ?_
          refine s_iconst (pc := 59) 1 dX12_between_59 kc_1 ?_
          refine s_istore (pc := 60) dX12_between_60 (nlt rfl) rfl (L' := [some (.ref (gh (xG X) + a0)), some (.int p1), some (.int p2), some (.int s22.2.1), some (.int s22.2.2), some (.int s22.2.1), some (.int 1), none]) rfl ?_
          refine s_iconst (pc := 62) 0 dX12_between_62 kc_0 ?_
          refine s_istore (pc := 63) dX12_between_63 (nlt rfl) rfl (L' := [some (.ref (gh (xG X) + a0)), some (.int p1), some (.int p2), some (.int s22.2.1), some (.int s22.2.2), some (.int s22.2.1), some (.int 1), some (.int 0)]) rfl ?_
          refine s_drop (L' := [some (.ref (gh (xG X) + a0)), some (.int p1), some (.int p2), some (.int s22.2.1), some (.int s22.2.2), some (.int s22.2.1), some (.int 1), some (.int 0)]) ?_ (And.intro rfl (And.intro rfl (And.intro rfl (And.intro rfl (And.intro rfl (And.intro rfl (And.intro rfl (And.intro rfl trivial))))))))
          refine s_loop1 s22.1 (fun s31 : Int32 × Int32 => s22.1) (fun s31 : Int32 × Int32 => [some (.ref (gh (xG X) + a0)), some (.int p1), some (.int p2), some (.int s22.2.1), some (.int s22.2.2), some (.int s22.2.1), some (.int s31.1), some (.int s31.2)]) (fun x37 : Int32 => s22.1) 106 (fun x37 : Int32 => [some (.ref (gh (xG X) + a0)), some (.int p1), some (.int p2), some (.int s22.2.1), some (.int s22.2.2), some (.int s22.2.1), some (.int x37), none]) (fun x37 hx38 => ?_) (fun T33 R35 hT34 hR36 s31 hs32 => ?_) (1, 0) Le.rf
          · show S0 X _ s22.1 106 [some (.ref (gh (xG X) + a0)), some (.int p1), some (.int p2), some (.int s22.2.1), some (.int s22.2.2), some (.int s22.2.1), some (.int x37), none] [] _
            refine s_iload (pc := 106) dX12_between_106 rfl ?_
            refine s_join s22.1 (fun s55 : Mem × Int32 => s55.1) 177 (fun s55 : Mem × Int32 => [some (.ref (gh (xG X) + a0)), some (.int p1), some (.int p2), some (.int s55.2), some (.int s22.2.2), none, none, none]) (fun s55 : Mem × Int32 => []) (fun s55 hs56 => ?_) (fun j54 hj57 => ?_)
            · show S0 X _ s55.1 177 [some (.ref (gh (xG X) + a0)), some (.int p1), some (.int p2), some (.int s55.2), some (.int s22.2.2), none, none, none] [] _
              have o58 := hs56.ok o28
              refine s_iinc (pc := 177) dX12_between_177 rfl (v := s22.2.2 + 1) (congrArg (fun z : Int32 => s22.2.2 + z) kc_1) (nlt rfl) rfl (L' := [some (.ref (gh (xG X) + a0)), some (.int p1), some (.int p2), some (.int s55.2), some (.int (s22.2.2 + 1)), none, none, none]) rfl ?_
              refine s_bv (fun x59 : Int32 => [some (.ref (gh (xG X) + a0)), some (.int p1), some (.int p2), some (.int s55.2), some (.int x59), none, none, none]) (fun x59 => ?_) rfl
              refine s_goto (pc := 180) 47 dX12_between_180 rfl ?_
              exact s_drop (hT25 (s55.1, s55.2, x59) (hs23.tr hs56)) (And.intro rfl (And.intro rfl (And.intro rfl (And.intro rfl (And.intro rfl trivial)))))
            · refine s_ifne (pc := 108) 114 dX12_between_108 rfl ?_ ?_
              · refine s_drop (L' := [some (.ref (gh (xG X) + a0)), some (.int p1), some (.int p2), some (.int s22.2.1), some (.int s22.2.2), some (.int s22.2.1), none, none]) ?_ (And.intro rfl (And.intro rfl (And.intro rfl (And.intro rfl (And.intro rfl (And.intro rfl trivial))))))
                refine s_loop1 s22.1 (fun s60 : Mem × Int32 => s60.1) (fun s60 : Mem × Int32 => [some (.ref (gh (xG X) + a0)), some (.int p1), some (.int p2), some (.int s22.2.1), some (.int s22.2.2), some (.int s60.2), none, none]) (fun x67 : Mem × Int32 => x67.1) 160 (fun x67 : Mem × Int32 => [some (.ref (gh (xG X) + a0)), some (.int p1), some (.int p2), some (.int s22.2.1), some (.int s22.2.2), some (.int x67.2), none, none]) (fun x67 hx68 => ?_) (fun T62 R64 hT63 hR65 s60 hs61 => ?_) (s22.1, s22.2.1) Le.rf
                · show S0 X _ x67.1 160 [some (.ref (gh (xG X) + a0)), some (.int p1), some (.int p2), some (.int s22.2.1), some (.int s22.2.2), some (.int x67.2), none, none] [] _
                  have o86 := hx68.ok o28
                  refine s_aload_n (pc := 160) 0 dX12_between_160 rfl rfl ?_
                  refine s_geto (pc := 161) F_12 38 rfl o86 dX12_between_161 kf_X12_86 ?_
                  refine s_rvB (fun r87 => ?_)
                  refine s_iload (pc := 164) dX12_between_164 rfl ?_
                  refine s_aload_n (pc := 166) 0 dX12_between_166 rfl rfl ?_
                  refine s_geto (pc := 167) F_12 9 rfl o86 dX12_between_167 kf_X12_33 ?_
                  refine s_rvB (fun r88 => ?_)
                  refine s_iload (pc := 170) dX12_between_170 rfl ?_
                  refine s_grd (fun o89 => ?_)
                  refine s_grd (fun i90 => ?_)
                  refine s_iald (pc := 172) o89 i90 dX12_between_172 ?_
                  refine s_grd (fun o91 => ?_)
                  refine s_grd (fun i92 => ?_)
                  refine s_iast (pc := 173) o91 i92 dX12_between_173 (fun M93 hM94 => ?_)
                  have h95 := le_wI hM94
                  have o96 := h95.ok o86
                  refine s_iinc (pc := 174) dX12_between_174 rfl (v := s22.2.1 + 1) (congrArg (fun z : Int32 => s22.2.1 + z) kc_1) (nlt rfl) rfl (L' := [some (.ref (gh (xG X) + a0)), some (.int p1), some (.int p2), some (.int (s22.2.1 + 1)), some (.int s22.2.2), some (.int x67.2), none, none]) rfl ?_
                  refine s_bv (fun x97 : Int32 => [some (.ref (gh (xG X) + a0)), some (.int p1), some (.int p2), some (.int x97), some (.int s22.2.2), some (.int x67.2), none, none]) (fun x97 => ?_) rfl
                  exact s_drop (hj57 (M93, x97) (hx68.tr h95)) (And.intro rfl (And.intro rfl (And.intro rfl (And.intro rfl (And.intro rfl trivial)))))
                · show S0 X _ s60.1 114 [some (.ref (gh (xG X) + a0)), some (.int p1), some (.int p2), some (.int s22.2.1), some (.int s22.2.2), some (.int s60.2), none, none] [] _
                  have o66 := hs61.ok o28
                  refine s_iload (pc := 114) dX12_between_114 rfl ?_
                  refine s_ifle (pc := 116) 160 dX12_between_116 rfl ?_ ?_
                  · exact s_drop (hR65 (s60.1, s60.2) hs61) (And.intro rfl (And.intro rfl (And.intro rfl (And.intro rfl (And.intro rfl (And.intro rfl trivial))))))
                  · refine s_aload_n (pc := 119) 0 dX12_between_119 rfl rfl ?_
                    refine s_geto (pc := 120) F_12 38 rfl o66 dX12_between_120 kf_X12_86 ?_
                    refine s_rvB (fun r69 => ?_)
                    refine s_iload (pc := 123) dX12_between_123 rfl ?_
                    refine s_iconst (pc := 125) 1 dX12_between_125 kc_1 ?_
                    refine s_isub (pc := 126) dX12_between_126 ?_
                    refine s_grd (fun o70 => ?_)
                    refine s_grd (fun i71 => ?_)
                    refine s_iald (pc := 127) o70 i71 dX12_between_127 ?_
                    refine s_aload_n (pc := 128) 0 dX12_between_128 rfl rfl ?_
                    refine s_geto (pc := 129) F_12 9 rfl o66 dX12_between_129 kf_X12_33 ?_
                    refine s_rvB (fun r72 => ?_)
                    refine s_iload (pc := 132) dX12_between_132 rfl ?_
                    refine s_grd (fun o73 => ?_)
                    refine s_grd (fun i74 => ?_)
                    refine s_iald (pc := 134) o73 i74 dX12_between_134 ?_
                    refine s_icle (pc := 135) 160 dX12_between_135 rfl ?_ ?_
                    · exact s_drop (hR65 (s60.1, s60.2) hs61) (And.intro rfl (And.intro rfl (And.intro rfl (And.intro rfl (And.intro rfl (And.intro rfl trivial))))))
                    · refine s_aload_n (pc := 138) 0 dX12_between_138 rfl rfl ?_
                      refine s_geto (pc := 139) F_12 38 rfl o66 dX12_between_139 kf_X12_86 ?_
                      refine s_rvB (fun r75 => ?_)
                      refine s_iload (pc := 142) dX12_between_142 rfl ?_
                      refine s_aload_n (pc := 144) 0 dX12_between_144 rfl rfl ?_
                      refine s_geto (pc := 145) F_12 38 rfl o66 dX12_between_145 kf_X12_86 ?_
                      refine s_rvB (fun r76 => ?_)
                      refine s_iload (pc := 148) dX12_between_148 rfl ?_
                      refine s_iconst (pc := 150) 1 dX12_between_150 kc_1 ?_
                      refine s_isub (pc := 151) dX12_between_151 ?_
                      refine s_grd (fun o77 => ?_)
                      refine s_grd (fun i78 => ?_)
                      refine s_iald (pc := 152) o77 i78 dX12_between_152 ?_
                      refine s_grd (fun o79 => ?_)
                      refine s_grd (fun i80 => ?_)
                      refine s_iast (pc := 153) o79 i80 dX12_between_153 (fun M81 hM82 => ?_)
                      have h83 := le_wI hM82
                      have o84 := h83.ok o66
                      refine s_iinc (pc := 154) dX12_between_154 rfl (v := s60.2 + (-1)) (congrArg (fun z : Int32 => s60.2 + z) kc_m1) (nlt rfl) rfl (L' := [some (.ref (gh (xG X) + a0)), some (.int p1), some (.int p2), some (.int s22.2.1), some (.int s22.2.2), some (.int (s60.2 + (-1))), none, none]) rfl ?_
                      refine s_bv (fun x85 : Int32 => [some (.ref (gh (xG X) + a0)), some (.int p1), some (.int p2), some (.int s22.2.1), some (.int s22.2.2), some (.int x85), none, none]) (fun x85 => ?_) rfl
                      refine s_goto (pc := 157) 114 dX12_between_157 rfl ?_
                      exact s_drop (hT63 (M81, x85) (hs61.tr h83)) (And.intro rfl (And.intro rfl (And.intro rfl (And.intro rfl (And.intro rfl (And.intro rfl trivial))))))
              · refine s_goto (pc := 111) 177 dX12_between_111 rfl ?_
                exact s_drop (hj57 (s22.1, s22.2.1) Le.rf) (And.intro rfl (And.intro rfl (And.intro rfl (And.intro rfl (And.intro rfl trivial)))))
          · show S0 X _ s22.1 65 [some (.ref (gh (xG X) + a0)), some (.int p1), some (.int p2), some (.int s22.2.1), some (.int s22.2.2), some (.int s22.2.1), some (.int s31.1), some (.int s31.2)] [] _
            refine s_iload (pc := 65) dX12_between_65 rfl ?_
            refine s_iload_n (pc := 67) 3 dX12_between_67 rfl rfl ?_
            refine s_icge (pc := 68) 106 dX12_between_68 rfl ?_ ?_
            · exact s_drop (hR36 s31.1 Le.rf) (And.intro rfl (And.intro rfl (And.intro rfl (And.intro rfl (And.intro rfl (And.intro rfl (And.intro rfl trivial)))))))
            · refine s_iload (pc := 71) dX12_between_71 rfl ?_
              refine s_join s22.1 (fun s40 : Int32 => s22.1) 98 (fun s40 : Int32 => [some (.ref (gh (xG X) + a0)), some (.int p1), some (.int p2), some (.int s22.2.1), some (.int s22.2.2), some (.int s22.2.1), none, some (.int s31.2)]) (fun s40 : Int32 => [.int s40]) (fun s40 hs41 => ?_) (fun j39 hj42 => ?_)
              · show S0 X _ s22.1 98 [some (.ref (gh (xG X) + a0)), some (.int p1), some (.int p2), some (.int s22.2.1), some (.int s22.2.2), some (.int s22.2.1), none, some (.int s31.2)] [.int s40] _
                refine s_istore (pc := 98) dX12_between_98 (nlt rfl) rfl (L' := [some (.ref (gh (xG X) + a0)), some (.int p1), some (.int p2), some (.int s22.2.1), some (.int s22.2.2), some (.int s22.2.1), some (.int s40), some (.int s31.2)]) rfl ?_
                refine s_iinc (pc := 100) dX12_between_100 rfl (v := s31.2 + 1) (congrArg (fun z : Int32 => s31.2 + z) kc_1) (nlt rfl) rfl (L' := [some (.ref (gh (xG X) + a0)), some (.int p1), some (.int p2), some (.int s22.2.1), some (.int s22.2.2), some (.int s22.2.1), some (.int s40), some (.int (s31.2 + 1))]) rfl ?_
                refine s_bv (fun x43 : Int32 => [some (.ref (gh (xG X) + a0)), some (.int p1), some (.int p2), some (.int s22.2.1), some (.int s22.2.2), some (.int s22.2.1), some (.int s40), some (.int x43)]) (fun x43 => ?_) rfl
                refine s_goto (pc := 103) 65 dX12_between_103 rfl ?_
                exact s_drop (hT34 (s40, x43) Le.rf) (And.intro rfl (And.intro rfl (And.intro rfl (And.intro rfl (And.intro rfl (And.intro rfl (And.intro rfl (And.intro rfl trivial))))))))
              · refine s_join s22.1 (fun s45 : Unit => s22.1) 97 (fun s45 : Unit => [some (.ref (gh (xG X) + a0)), some (.int p1), some (.int p2), some (.int s22.2.1), some (.int s22.2.2), some (.int s22.2.1), none, some (.int s31.2)]) (fun s45 : Unit => []) (fun s45 hs46 => ?_) (fun j44 hj47 => ?_)
                · show S0 X _ s22.1 97 [some (.ref (gh (xG X) + a0)), some (.int p1), some (.int p2), some (.int s22.2.1), some (.int s22.2.2), some (.int s22.2.1), none, some (.int s31.2)] [] _
                  refine s_iconst (pc := 97) 0 dX12_between_97 kc_0 ?_
                  exact s_drop (hj42 0 Le.rf) (And.intro rfl (And.intro rfl (And.intro rfl (And.intro rfl (And.intro rfl (And.intro rfl (And.intro rfl trivial)))))))
                · refine s_ifeq (pc := 73) 97 dX12_between_73 rfl ?_ ?_
                  · exact s_drop (hj47 () Le.rf) (And.intro rfl (And.intro rfl (And.intro rfl (And.intro rfl (And.intro rfl (And.intro rfl (And.intro rfl trivial)))))))
                  · refine s_aload_n (pc := 76) 0 dX12_between_76 rfl rfl ?_
                    refine s_geto (pc := 77) F_12 38 rfl o28 dX12_between_77 kf_X12_86 ?_
                    refine s_rvB (fun r48 => ?_)
                    refine s_iload (pc := 80) dX12_between_80 rfl ?_
                    refine s_grd (fun o49 => ?_)
                    refine s_grd (fun i50 => ?_)
                    refine s_iald (pc := 82) o49 i50 dX12_between_82 ?_
                    refine s_aload_n (pc := 83) 0 dX12_between_83 rfl rfl ?_
                    refine s_geto (pc := 84) F_12 9 rfl o28 dX12_between_84 kf_X12_33 ?_
                    refine s_rvB (fun r51 => ?_)
                    refine s_iload (pc := 87) dX12_between_87 rfl ?_
                    refine s_grd (fun o52 => ?_)
                    refine s_grd (fun i53 => ?_)
                    refine s_iald (pc := 89) o52 i53 dX12_between_89 ?_
                    refine s_iceq (pc := 90) 97 dX12_between_90 rfl ?_ ?_
                    · exact s_drop (hj47 () Le.rf) (And.intro rfl (And.intro rfl (And.intro rfl (And.intro rfl (And.intro rfl (And.intro rfl (And.intro rfl trivial)))))))
                    · refine s_iconst (pc := 93) 1 dX12_between_93 kc_1 ?_
                      refine s_goto (pc := 94) 98 dX12_between_94 rfl ?_
                      exact s_drop (hj42 1 Le.rf) (And.intro rfl (And.intro rfl (And.intro rfl (And.intro rfl (And.intro rfl (And.intro rfl (And.intro rfl trivial)))))))
    · refine s_iconst (pc := 18) (-1) dX12_between_18 kc_m1 ?_
      exact s_iret rfl dX12_between_19
