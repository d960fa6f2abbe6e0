set_option maxRecDepth 100000 in
set_option maxHeartbeats 8000000 in
noncomputable def f_X12_mustNumber (M : Mem) (a0 : Nat) (p1 : Int32) (p2 : Int32) : Option Mem :=
  grd (okO M 12 a0) (Option.bind (f_X12_fine M a0) (fun q2 => bv (fun (s6 : Mem) => Option.bind (f_X12_fine s6 a0) (fun q10 => if q10 = 0 then (some s6) else (bv (wI s6 a0 23 ((mI s6 a0 23) + 1)) (fun M13 => some M13)))) (fun j5 => if q2 = 0 then (j5 M) else (Option.bind (mR M a0 19) (fun r17 => grd (okO M 14 r17) (grd (vp_in (mI M a0 23) (mL M r17)) (bv (fun (s21 : Unit) => Option.bind (f_X12_faults M a0) (fun q24 => j5 q24)) (fun j20 => if (mI M r17 (mI M a0 23).toNatClampNeg) = 50 then (Option.bind (mR M a0 20) (fun r29 => grd (okO M 14 r29) (grd (vp_in (mI M a0 23) (mL M r29)) (Option.bind (f_X12_lies (mI M r29 (mI M a0 23).toNatClampNeg) p1 p2) (fun q32 => if q32 = 0 then (j20 ()) else (j5 M)))))) else (j20 ())))))))))
abbrev Y_X12_mustNumber : Sta := (RX12, "mustNumber", cX12_mustNumber, 3, none, 3)
set_option maxRecDepth 100000 in
set_option maxHeartbeats 8000000 in
theorem t_X12_mustNumber {l : Launch} {G : Gh} {M : Mem} {a0 : Nat} {p1 : Int32} {p2 : Int32} {q : Mem} (h : f_X12_mustNumber M a0 p1 p2 = some q) : Ctr l G yX12_mustNumber Y_X12_mustNumber M [.ref (gh G + a0), .int p1, .int p2] q (none) := by
  refine Ctr.of (Y := Y_X12_mustNumber) (L := [some (.ref (gh G + a0)), some (.int p1), some (.int p2)]) (t := Option.bind (f_X12_mustNumber M a0 p1 p2) (fun q => some (q, (none : Option Value)))) (by decide) rfl rfl (nle rfl) (Lof_in 0 _ rfl) (fun X hG hl => ?_) (by rw [h]; rfl)
  subst hG
  subst hl
  unfold f_X12_mustNumber
  refine s_aload_n (pc := 0) 0 dX12_mustNumber_0 rfl rfl ?_
  refine s_grd (fun o1 => ?_)
  refine s_bind (fun q2 hq3 => ?_)
  have hC4 := t_X12_fine (l := xl X) (G := xG X) hq3
  refine s_callV (pc := 1) (As := []) (st := []) (nlt rfl) (q := (RX12, TX12, 59)) rfl rfl o1 cl_X12_fine wi_X12_fine wl_X12_fine km_X12_233 rfl rfl (nle rfl) (nle rfl) (nle rfl) dX12_mustNumber_1 hC4 ?_
  show S0 X _ M 4 [some (.ref (gh (xG X) + a0)), some (.int p1), some (.int p2)] [.int q2] _
  refine s_join M (fun s6 : Mem => s6) 42 (fun s6 : Mem => [some (.ref (gh (xG X) + a0)), none, none]) (fun s6 : Mem => []) (fun s6 hs7 => ?_) (fun j5 hj8 => ?_)
  · show S0 X _ s6 42 [some (.ref (gh (xG X) + a0)), none, none] [] _
    have o9 := hs7.ok o1
    refine s_aload_n (pc := 42) 0 dX12_mustNumber_42 rfl rfl ?_
    refine s_bind (fun q10 hq11 => ?_)
    have hC12 := t_X12_fine (l := xl X) (G := xG X) hq11
    refine s_callV (pc := 43) (As := []) (st := []) (nlt rfl) (q := (RX12, TX12, 59)) rfl rfl o9 cl_X12_fine wi_X12_fine wl_X12_fine km_X12_233 rfl rfl (nle rfl) (nle rfl) (nle rfl) dX12_mustNumber_43 hC12 ?_
    show S0 X _ s6 46 [some (.ref (gh (xG X) + a0)), none, none] [.int q10] _
    refine s_ifeq (pc := 46) 59 dX12_mustNumber_46 rfl ?_ ?_
    · exact s_vret rfl dX12_mustNumber_59
    · refine s_aload_n (pc := 49) 0 dX12_mustNumber_49 rfl rfl ?_
      refine s_dup (pc := 50) dX12_mustNumber_50 rfl ?_
      refine s_geti (pc := 51) F_12 23 rfl o9 dX12_mustNumber_51 kf_X12_237 ?_
      refine s_iconst (pc := 54) 1 dX12_mustNumber_54 kc_1 ?_
      refine s_iadd (pc := 55) dX12_mustNumber_55 ?_
      refine s_puti (pc := 56) F_12 23 rfl o9 rfl rfl rfl dX12_mustNumber_56 kf_X12_237 (fun M13 hM14 => ?_)
      have h15 := le_wI hM14
      have o16 := h15.ok o9
      exact s_vret rfl dX12_mustNumber_59
  · refine s_ifeq (pc := 4) 42 dX12_mustNumber_4 rfl ?_ ?_
    · exact s_drop (hj8 M Le.rf) (And.intro rfl trivial)
    · refine s_aload_n (pc := 7) 0 dX12_mustNumber_7 rfl rfl ?_
      refine s_geto (pc := 8) F_12 19 rfl o1 dX12_mustNumber_8 kf_X12_52 ?_
      refine s_rvB (fun r17 => ?_)
      refine s_aload_n (pc := 11) 0 dX12_mustNumber_11 rfl rfl ?_
      refine s_geti (pc := 12) F_12 23 rfl o1 dX12_mustNumber_12 kf_X12_237 ?_
      refine s_grd (fun o18 => ?_)
      refine s_grd (fun i19 => ?_)
      refine s_iald (pc := 15) o18 i19 dX12_mustNumber_15 ?_
      refine s_bipush (pc := 16) 50 dX12_mustNumber_16 kb_50 ?_
      refine s_join M (fun s21 : Unit => M) 38 (fun s21 : Unit => [some (.ref (gh (xG X) + a0)), none, none]) (fun s21 : Unit => []) (fun s21 hs22 => ?_) (fun j20 hj23 => ?_)
      · show S0 X _ M 38 [some (.ref (gh (xG X) + a0)), none, none] [] _
        refine s_aload_n (pc := 38) 0 dX12_mustNumber_38 rfl rfl ?_
        refine s_bind (fun q24 hq25 => ?_)
        have hC26 := t_X12_faults (l := xl X) (G := xG X) hq25
        refine s_callV (pc := 39) (As := []) (st := []) (nlt rfl) (q := (RX12, TX12, 59)) rfl rfl o1 cl_X12_faults wi_X12_faults wl_X12_faults km_X12_243 rfl rfl (nle rfl) (nle rfl) (nle rfl) dX12_mustNumber_39 hC26 ?_
        have h27 := hC26.1 X
        have o28 := h27.ok o1
        show S0 X _ q24 42 [some (.ref (gh (xG X) + a0)), none, none] [] _
        exact s_drop (hj8 q24 h27) (And.intro rfl trivial)
      · refine s_icne (pc := 18) 38 dX12_mustNumber_18 rfl ?_ ?_
        · exact s_drop (hj23 () Le.rf) (And.intro rfl trivial)
        · refine s_aload_n (pc := 21) 0 dX12_mustNumber_21 rfl rfl ?_
          refine s_geto (pc := 22) F_12 20 rfl o1 dX12_mustNumber_22 kf_X12_55 ?_
          refine s_rvB (fun r29 => ?_)
          refine s_aload_n (pc := 25) 0 dX12_mustNumber_25 rfl rfl ?_
          refine s_geti (pc := 26) F_12 23 rfl o1 dX12_mustNumber_26 kf_X12_237 ?_
          refine s_grd (fun o30 => ?_)
          refine s_grd (fun i31 => ?_)
          refine s_iald (pc := 29) o30 i31 dX12_mustNumber_29 ?_
          refine s_iload_n (pc := 30) 1 dX12_mustNumber_30 rfl rfl ?_
          refine s_iload_n (pc := 31) 2 dX12_mustNumber_31 rfl rfl ?_
          refine s_bind (fun q32 hq33 => ?_)
          have hC34 := t_X12_lies (l := xl X) (G := xG X) (M := M) hq33
          refine s_callS (pc := 32) (As := [.int (mI M r29 (mI M a0 23).toNatClampNeg), .int p1, .int p2]) (st := []) cl_X12_lies wt_X12_lies km_X12_123 rfl rfl (nle rfl) (nle rfl) (nle rfl) dX12_mustNumber_32 hC34 ?_
          show S0 X _ M 35 [some (.ref (gh (xG X) + a0)), some (.int p1), some (.int p2)] [.int q32] _
          refine s_ifne (pc := 35) 42 dX12_mustNumber_35 rfl ?_ ?_
          · exact s_drop (hj8 M Le.rf) (And.intro rfl trivial)
          · exact s_drop (hj23 () Le.rf) (And.intro rfl trivial)
set_option maxRecDepth 100000 in
set_option maxHeartbeats 8000000 in
noncomputable def f_X12_of (M : Mem) (a0 : Nat) (p1 : Int32) (p2 : Int32) : Option Int32 :=
  Option.bind (f_X12_isThing p1) (fun q1 => if q1 = 0 then (some (-1)) else (Option.bind (f_X12_lies p2 0 2) (fun q4 => if q4 = 0 then (some (-1)) else (grd (okO M 12 a0) (Option.bind (mR M a0 3) (fun r8 => grd (okO M 14 r8) (grd (vp_in ((0 + (6 * p2)) + p1) (mL M r8)) (some (mI M r8 ((0 + (6 * p2)) + p1).toNatClampNeg)))))))))
abbrev Y_X12_of : Sta := (RX12, "of", cX12_of, 3, (some .int), 3)
set_option maxRecDepth 100000 in
set_option maxHeartbeats 8000000 in
theorem t_X12_of {l : Launch} {G : Gh} {M : Mem} {a0 : Nat} {p1 : Int32} {p2 : Int32} {q : Int32} (h : f_X12_of M a0 p1 p2 = some q) : Ctr l G yX12_of Y_X12_of M [.ref (gh G + a0), .int p1, .int p2] M (some (.int q)) := by
  refine Ctr.of (Y := Y_X12_of) (L := [some (.ref (gh G + a0)), some (.int p1), some (.int p2)]) (t := Option.bind (f_X12_of M a0 p1 p2) (fun q => some (M, some (.int q)))) (by decide) rfl rfl (nle rfl) (Lof_in 0 _ rfl) (fun X hG hl => ?_) (by rw [h]; rfl)
  subst hG
  subst hl
  unfold f_X12_of
  refine s_iload_n (pc := 0) 1 dX12_of_0 rfl rfl ?_
  refine s_bind (fun q1 hq2 => ?_)
  have hC3 := t_X12_isThing (l := xl X) (G := xG X) (M := M) hq2
  refine s_callS (pc := 1) (As := [.int p1]) (st := []) cl_X12_isThing wt_X12_isThing km_X12_134 rfl rfl (nle rfl) (nle rfl) (nle rfl) dX12_of_1 hC3 ?_
  show S0 X _ M 4 [some (.ref (gh (xG X) + a0)), some (.int p1), some (.int p2)] [.int q1] _
  refine s_ifeq (pc := 4) 32 dX12_of_4 rfl ?_ ?_
  · refine s_iconst (pc := 32) (-1) dX12_of_32 kc_m1 ?_
    exact s_iret rfl dX12_of_33
  · refine s_iload_n (pc := 7) 2 dX12_of_7 rfl rfl ?_
    refine s_iconst (pc := 8) 0 dX12_of_8 kc_0 ?_
    refine s_iconst (pc := 9) 2 dX12_of_9 kc_2 ?_
    refine s_bind (fun q4 hq5 => ?_)
    have hC6 := t_X12_lies (l := xl X) (G := xG X) (M := M) hq5
    refine s_callS (pc := 10) (As := [.int p2, .int 0, .int 2]) (st := []) cl_X12_lies wt_X12_lies km_X12_123 rfl rfl (nle rfl) (nle rfl) (nle rfl) dX12_of_10 hC6 ?_
    show S0 X _ M 13 [some (.ref (gh (xG X) + a0)), some (.int p1), some (.int p2)] [.int q4] _
    refine s_ifeq (pc := 13) 32 dX12_of_13 rfl ?_ ?_
    · refine s_iconst (pc := 32) (-1) dX12_of_32 kc_m1 ?_
      exact s_iret rfl dX12_of_33
    · refine s_aload_n (pc := 16) 0 dX12_of_16 rfl rfl ?_
      refine s_grd (fun o7 => ?_)
      refine s_geto (pc := 17) F_12 3 rfl o7 dX12_of_17 kf_X12_20 ?_
      refine s_rvB (fun r8 => ?_)
      refine s_iconst (pc := 20) 0 dX12_of_20 kc_0 ?_
      refine s_bipush (pc := 21) 6 dX12_of_21 kb_6 ?_
      refine s_iload_n (pc := 23) 2 dX12_of_23 rfl rfl ?_
      refine s_imul (pc := 24) dX12_of_24 ?_
      refine s_iadd (pc := 25) dX12_of_25 ?_
      refine s_iload_n (pc := 26) 1 dX12_of_26 rfl rfl ?_
      refine s_iadd (pc := 27) dX12_of_27 ?_
      refine s_grd (fun o9 => ?_)
      refine s_grd (fun i10 => ?_)
      refine s_iald (pc := 28) o9 i10 dX12_of_28 ?_
      refine s_goto (pc := 29) 33 dX12_of_29 rfl ?_
      exact s_iret rfl dX12_of_33
abbrev Y_X12_partOf (d : Nat) : Sta := (RX12, "partOf", cX12_partOf, 5, (some .long), 3 + d)
abbrev Y_X12_sumOf (d : Nat) : Sta := (RX12, "sumOf", cX12_sumOf, 7, (some .long), 3 + d)
abbrev Y_X12_termOf (d : Nat) : Sta := (RX12, "termOf", cX12_termOf, 7, (some .long), 3 + d)
set_option maxRecDepth 100000 in
set_option maxHeartbeats 8000000 in
noncomputable def b_X12_partOf (g_X12_sumOf : Mem → Nat → Int32 → Option (Mem × Int64)) (M : Mem) (a0 : Nat) (p1 : Int32) : Option (Mem × Int64) :=
  Option.bind (f_X12_sign 91) (fun q1 => grd (okO M 12 a0) (Option.bind (f_X12_passes0 M a0 q1) (fun q5 => if q5.2 = 0 then (Option.bind (f_X12_codeAt q5.1 a0 (mI q5.1 a0 26)) (fun q10 => bv (wI q5.1 a0 26 ((mI q5.1 a0 26) + 1)) (fun M13 => bv (fun (s18 : Mem × Int32) => bv (fun (s23 : Mem × Int32) => if p1 = 0 then (some (s23.1, 0)) else (if (mI s23.1 a0 28) = 0 then (if q10 = 50 then (Option.bind (mR s23.1 a0 3) (fun r51 => grd (okO s23.1 14 r51) (grd (vp_in ((2866 + (mI s23.1 a0 26)) - 1) (mL s23.1 r51)) (some (s23.1, (mI s23.1 r51 ((2866 + (mI s23.1 a0 26)) - 1).toNatClampNeg).toInt64))))) else (if (mI s23.1 a0 29) = 0 then (Option.bind (mR s23.1 a0 30) (fun r48 => grd (okO s23.1 14 r48) (grd (vp_in (q10 - 7) (mL s23.1 r48)) (some (s23.1, (mI s23.1 r48 (q10 - 7).toNatClampNeg).toInt64))))) else (if q10 = 10 then (Option.bind (f_X12_isHouse s23.1 a0 s18.2) (fun q39 => if q39 = 0 then (some (s23.1, (-1))) else (Option.bind (f_X12_fact s23.1 a0 s18.2 2) (fun q42 => Option.bind (f_X12_longOf q42) (fun q45 => some (s23.1, q45.toInt64)))))) else (if q10 = 11 then (Option.bind (f_X12_isHouse s23.1 a0 s18.2) (fun q30 => if q30 = 0 then (some (s23.1, (-1))) else (Option.bind (f_X12_fact s23.1 a0 s18.2 2) (fun q33 => Option.bind (f_X12_has a0 q33 s23.2) (fun q36 => some (s23.1, q36.toInt64)))))) else (Option.bind (mR s23.1 a0 31) (fun r27 => grd (okO s23.1 14 r27) (grd (vp_in (q10 - 15) (mL s23.1 r27)) (some (s23.1, (mI s23.1 r27 (q10 - 15).toNatClampNeg).toInt64))))))))) else (some (s23.1, 0)))) (fun j22 => if (mI s18.1 a0 29) = 0 then (j22 (s18.1, 0)) else (if q10 = 11 then (Option.bind (mR s18.1 a0 3) (fun r54 => grd (okO s18.1 14 r54) (grd (vp_in (2866 + (mI s18.1 a0 26)) (mL s18.1 r54)) (bv (mI s18.1 r54 (2866 + (mI s18.1 a0 26)).toNatClampNeg : Int32) (fun x57 => bv (wI s18.1 a0 26 ((mI s18.1 a0 26) + 1)) (fun M58 => j22 (M58, x57))))))) else (j22 (s18.1, 0))))) (fun j17 => if (mI M13 a0 29) = 0 then (j17 (M13, 0)) else (bv (fun (s63 : Unit) => Option.bind (mR M13 a0 3) (fun r66 => grd (okO M13 14 r66) (grd (vp_in (2866 + (mI M13 a0 26)) (mL M13 r66)) (bv (mI M13 r66 (2866 + (mI M13 a0 26)).toNatClampNeg : Int32) (fun x69 => bv (wI M13 a0 26 ((mI M13 a0 26) + 1)) (fun M70 => j17 (M70, x69))))))) (fun j62 => if q10 = 10 then (j62 ()) else (if q10 = 11 then (j62 ()) else (j17 (M13, 0))))))))) else (Option.bind (g_X12_sumOf q5.1 a0 p1) (fun q74 => bv (wI q74.1 a0 26 ((mI q74.1 a0 26) + 1)) (fun M79 => some (M79, q74.2)))))))
set_option maxRecDepth 100000 in
set_option maxHeartbeats 8000000 in
theorem t_X12_partOf {d : Nat} {g_X12_sumOf : Mem → Nat → Int32 → Option (Mem × Int64)} {l : Launch} {G : Gh} {M : Mem} {a0 : Nat} {p1 : Int32} {q : Mem × Int64} (hg_X12_sumOf : ∀ X : Ctx, xG X = G → xl X = l → ∀ (M : Mem) (a0 : Nat) (p1 : Int32) (q : Mem × Int64), g_X12_sumOf M a0 p1 = some q → Ctr (xl X) (xG X) yX12_sumOf (Y_X12_sumOf d) M [.ref (gh (xG X) + a0), .int p1] q.1 (some (.long q.2))) (h : b_X12_partOf g_X12_sumOf M a0 p1 = some q) : Ctr l G yX12_partOf (Y_X12_partOf (d + 1)) M [.ref (gh G + a0), .int p1] q.1 (some (.long q.2)) := by
  refine Ctr.of (Y := (Y_X12_partOf (d + 1))) (L := [some (.ref (gh G + a0)), some (.int p1), none, none, none]) (t := Option.bind (b_X12_partOf g_X12_sumOf M a0 p1) (fun q => some (q.1, some (.long q.2)))) (by decide) rfl rfl (nle rfl) (Lof_in 3 _ rfl) (fun X hG hl => ?_) (by rw [h]; rfl)
  subst hG
  subst hl
  unfold b_X12_partOf
  refine s_aload_n (pc := 0) 0 dX12_partOf_0 rfl rfl ?_
  refine s_bipush (pc := 1) 91 dX12_partOf_1 kb_91 ?_
  refine s_bind (fun q1 hq2 => ?_)
  have hC3 := t_X12_sign (l := xl X) (G := xG X) (M := M) hq2
  refine s_callS (pc := 3) (As := [.int 91]) (st := [.ref (gh (xG X) + a0)]) cl_X12_sign wt_X12_sign km_X12_278 rfl rfl (Nat.le_trans (nle rfl : _ ≤ 3) (Nat.le_add_right 3 _)) (nle rfl) (nle rfl) dX12_partOf_3 hC3 ?_
  show S0 X _ M 6 [some (.ref (gh (xG X) + a0)), some (.int p1), none, none, none] [.int q1, .ref (gh (xG X) + a0)] _
  refine s_grd (fun o4 => ?_)
  refine s_bind (fun q5 hq6 => ?_)
  have hC7 := t_X12_passes0 (l := xl X) (G := xG X) hq6
  refine s_callV (pc := 6) (As := [.int q1]) (st := []) (nlt rfl) (q := (RX12, TX12, 59)) rfl rfl o4 cl_X12_passes0 wi_X12_passes0 wl_X12_passes0 km_X12_333 rfl rfl (Nat.le_trans (nle rfl : _ ≤ 3) (Nat.le_add_right 3 _)) (nle rfl) (nle rfl) dX12_partOf_6 hC7 ?_
  have h8 := hC7.1 X
  have o9 := h8.ok o4
  show S0 X _ q5.1 9 [some (.ref (gh (xG X) + a0)), some (.int p1), none, none, none] [.int q5.2] _
  refine s_ifeq (pc := 9) 30 dX12_partOf_9 rfl ?_ ?_
  · refine s_aload_n (pc := 30) 0 dX12_partOf_30 rfl rfl ?_
    refine s_aload_n (pc := 31) 0 dX12_partOf_31 rfl rfl ?_
    refine s_geti (pc := 32) F_12 26 rfl o9 dX12_partOf_32 kf_X12_309 ?_
    refine s_bind (fun q10 hq11 => ?_)
    have hC12 := t_X12_codeAt (l := xl X) (G := xG X) hq11
    refine s_callV (pc := 35) (As := [.int (mI q5.1 a0 26)]) (st := []) (nlt rfl) (q := (RX12, TX12, 59)) rfl rfl o9 cl_X12_codeAt wi_X12_codeAt wl_X12_codeAt km_X12_312 rfl rfl (Nat.le_trans (nle rfl : _ ≤ 3) (Nat.le_add_right 3 _)) (nle rfl) (nle rfl) dX12_partOf_35 hC12 ?_
    show S0 X _ q5.1 38 [some (.ref (gh (xG X) + a0)), some (.int p1), none, none, none] [.int q10] _
    refine s_istore_n (pc := 38) 2 dX12_partOf_38 rfl (nlt rfl) rfl (L' := [some (.ref (gh (xG X) + a0)), some (.int p1), some (.int q10), none, none]) rfl ?_
    refine s_iconst (pc := 39) 0 dX12_partOf_39 kc_0 ?_
    refine s_istore_n (pc := 40) 3 dX12_partOf_40 rfl (nlt rfl) rfl (L' := [some (.ref (gh (xG X) + a0)), some (.int p1), some (.int q10), some (.int 0), none]) rfl ?_
    refine s_iconst (pc := 41) 0 dX12_partOf_41 kc_0 ?_
    refine s_istore (pc := 42) dX12_partOf_42 (nlt rfl) rfl (L' := [some (.ref (gh (xG X) + a0)), some (.int p1), some (.int q10), some (.int 0), some (.int 0)]) rfl ?_
    refine s_aload_n (pc := 44) 0 dX12_partOf_44 rfl rfl ?_
    refine s_dup (pc := 45) dX12_partOf_45 rfl ?_
    refine s_geti (pc := 46) F_12 26 rfl o9 dX12_partOf_46 kf_X12_309 ?_
    refine s_iconst (pc := 49) 1 dX12_partOf_49 kc_1 ?_
    refine s_iadd (pc := 50) dX12_partOf_50 ?_
    refine s_puti (pc := 51) F_12 26 rfl o9 rfl rfl rfl dX12_partOf_51 kf_X12_309 (fun M13 hM14 => ?_)
    have h15 := le_wI hM14
    have o16 := h15.ok o9
    refine s_aload_n (pc := 54) 0 dX12_partOf_54 rfl rfl ?_
    refine s_geti (pc := 55) F_12 29 rfl o16 dX12_partOf_55 kf_X12_339 ?_
    refine s_join M13 (fun s18 : Mem × Int32 => s18.1) 97 (fun s18 : Mem × Int32 => [some (.ref (gh (xG X) + a0)), some (.int p1), some (.int q10), some (.int s18.2), some (.int 0)]) (fun s18 : Mem × Int32 => []) (fun s18 hs19 => ?_) (fun j17 hj20 => ?_)
    · show S0 X _ s18.1 97 [some (.ref (gh (xG X) + a0)), some (.int p1), some (.int q10), some (.int s18.2), some (.int 0)] [] _
      have o21 := hs19.ok o16
      refine s_aload_n (pc := 97) 0 dX12_partOf_97 rfl rfl ?_
      refine s_geti (pc := 98) F_12 29 rfl o21 dX12_partOf_98 kf_X12_339 ?_
      refine s_join s18.1 (fun s23 : Mem × Int32 => s23.1) 135 (fun s23 : Mem × Int32 => [some (.ref (gh (xG X) + a0)), some (.int p1), some (.int q10), some (.int s18.2), some (.int s23.2)]) (fun s23 : Mem × Int32 => []) (fun s23 hs24 => ?_) (fun j22 hj25 => ?_)
      · show S0 X _ s23.1 135 [some (.ref (gh (xG X) + a0)), some (.int p1), some (.int q10), some (.int s18.2), some (.int s23.2)] [] _
        have o26 := hs24.ok o21
        refine s_iload_n (pc := 135) 1 dX12_partOf_135 rfl rfl ?_
        refine s_ifeq (pc := 136) 146 dX12_partOf_136 rfl ?_ ?_
        · refine s_lconst (pc := 146) 0 dX12_partOf_146 kl_0 ?_
          exact s_lret rfl dX12_partOf_147
        · refine s_aload_n (pc := 139) 0 dX12_partOf_139 rfl rfl ?_
          refine s_geti (pc := 140) F_12 28 rfl o26 dX12_partOf_140 kf_X12_319 ?_
          refine s_ifeq (pc := 143) 148 dX12_partOf_143 rfl ?_ ?_
          · refine s_iload_n (pc := 148) 2 dX12_partOf_148 rfl rfl ?_
            refine s_bipush (pc := 149) 50 dX12_partOf_149 kb_50 ?_
            refine s_icne (pc := 151) 171 dX12_partOf_151 rfl ?_ ?_
            · refine s_aload_n (pc := 171) 0 dX12_partOf_171 rfl rfl ?_
              refine s_geti (pc := 172) F_12 29 rfl o26 dX12_partOf_172 kf_X12_339 ?_
              refine s_ifne (pc := 175) 189 dX12_partOf_175 rfl ?_ ?_
              · refine s_iload_n (pc := 189) 2 dX12_partOf_189 rfl rfl ?_
                refine s_bipush (pc := 190) 10 dX12_partOf_190 kb_10 ?_
                refine s_icne (pc := 192) 220 dX12_partOf_192 rfl ?_ ?_
                · refine s_iload_n (pc := 220) 2 dX12_partOf_220 rfl rfl ?_
                  refine s_bipush (pc := 221) 11 dX12_partOf_221 kb_11 ?_
                  refine s_icne (pc := 223) 256 dX12_partOf_223 rfl ?_ ?_
                  · refine s_aload_n (pc := 256) 0 dX12_partOf_256 rfl rfl ?_
                    refine s_geto (pc := 257) F_12 31 rfl o26 dX12_partOf_257 kf_X12_64 ?_
                    refine s_rvB (fun r27 => ?_)
                    refine s_iload_n (pc := 260) 2 dX12_partOf_260 rfl rfl ?_
                    refine s_bipush (pc := 261) 15 dX12_partOf_261 kb_15 ?_
                    refine s_isub (pc := 263) dX12_partOf_263 ?_
                    refine s_grd (fun o28 => ?_)
                    refine s_grd (fun i29 => ?_)
                    refine s_iald (pc := 264) o28 i29 dX12_partOf_264 ?_
                    refine s_i2l (pc := 265) dX12_partOf_265 ?_
                    exact s_lret rfl dX12_partOf_266
                  · refine s_aload_n (pc := 226) 0 dX12_partOf_226 rfl rfl ?_
                    refine s_iload_n (pc := 227) 3 dX12_partOf_227 rfl rfl ?_
                    refine s_bind (fun q30 hq31 => ?_)
                    have hC32 := t_X12_isHouse (l := xl X) (G := xG X) hq31
                    refine s_callV (pc := 228) (As := [.int s18.2]) (st := []) (nlt rfl) (q := (RX12, TX12, 59)) rfl rfl o26 cl_X12_isHouse wi_X12_isHouse wl_X12_isHouse km_X12_191 rfl rfl (Nat.le_trans (nle rfl : _ ≤ 3) (Nat.le_add_right 3 _)) (nle rfl) (nle rfl) dX12_partOf_228 hC32 ?_
                    show S0 X _ s23.1 231 [some (.ref (gh (xG X) + a0)), some (.int p1), some (.int q10), some (.int s18.2), some (.int s23.2)] [.int q30] _
                    refine s_ifeq (pc := 231) 250 dX12_partOf_231 rfl ?_ ?_
                    · refine s_ldc2 (pc := 250) dX12_partOf_250 kl_X12_342 ?_
                      refine s_goto (pc := 253) 266 dX12_partOf_253 rfl ?_
                      exact s_lret rfl dX12_partOf_266
                    · refine s_aload_n (pc := 234) 0 dX12_partOf_234 rfl rfl ?_
                      refine s_aload_n (pc := 235) 0 dX12_partOf_235 rfl rfl ?_
                      refine s_iload_n (pc := 236) 3 dX12_partOf_236 rfl rfl ?_
                      refine s_iconst (pc := 237) 2 dX12_partOf_237 kc_2 ?_
                      refine s_bind (fun q33 hq34 => ?_)
                      have hC35 := t_X12_fact (l := xl X) (G := xG X) hq34
                      refine s_callV (pc := 238) (As := [.int s18.2, .int 2]) (st := [.ref (gh (xG X) + a0)]) (nlt rfl) (q := (RX12, TX12, 59)) rfl rfl o26 cl_X12_fact wi_X12_fact wl_X12_fact km_X12_194 rfl rfl (Nat.le_trans (nle rfl : _ ≤ 3) (Nat.le_add_right 3 _)) (nle rfl) (nle rfl) dX12_partOf_238 hC35 ?_
                      show S0 X _ s23.1 241 [some (.ref (gh (xG X) + a0)), some (.int p1), some (.int q10), some (.int s18.2), some (.int s23.2)] [.int q33, .ref (gh (xG X) + a0)] _
                      refine s_iload (pc := 241) dX12_partOf_241 rfl ?_
                      refine s_bind (fun q36 hq37 => ?_)
                      have hC38 := t_X12_has (l := xl X) (G := xG X) (M := s23.1) hq37
                      refine s_callV (pc := 243) (As := [.int q33, .int s23.2]) (st := []) (nlt rfl) (q := (RX12, TX12, 59)) rfl rfl o26 cl_X12_has wi_X12_has wl_X12_has km_X12_159 rfl rfl (Nat.le_trans (nle rfl : _ ≤ 3) (Nat.le_add_right 3 _)) (nle rfl) (nle rfl) dX12_partOf_243 hC38 ?_
                      show S0 X _ s23.1 246 [some (.ref (gh (xG X) + a0)), some (.int p1), some (.int q10), some (.int s18.2), some (.int s23.2)] [.int q36] _
                      refine s_i2l (pc := 246) dX12_partOf_246 ?_
                      refine s_goto (pc := 247) 266 dX12_partOf_247 rfl ?_
                      exact s_lret rfl dX12_partOf_266
                · refine s_aload_n (pc := 195) 0 dX12_partOf_195 rfl rfl ?_
                  refine s_iload_n (pc := 196) 3 dX12_partOf_196 rfl rfl ?_
                  refine s_bind (fun q39 hq40 => ?_)
                  have hC41 := t_X12_isHouse (l := xl X) (G := xG X) hq40
                  refine s_callV (pc := 197) (As := [.int s18.2]) (st := []) (nlt rfl) (q := (RX12, TX12, 59)) rfl rfl o26 cl_X12_isHouse wi_X12_isHouse wl_X12_isHouse km_X12_191 rfl rfl (Nat.le_trans (nle rfl : _ ≤ 3) (Nat.le_add_right 3 _)) (nle rfl) (nle rfl) dX12_partOf_197 hC41 ?_
                  show S0 X _ s23.1 200 [some (.ref (gh (xG X) + a0)), some (.int p1), some (.int q10), some (.int s18.2), some (.int s23.2)] [.int q39] _
                  refine s_ifeq (pc := 200) 216 dX12_partOf_200 rfl ?_ ?_
                  · refine s_ldc2 (pc := 216) dX12_partOf_216 kl_X12_342 ?_
                    exact s_lret rfl dX12_partOf_219
                  · refine s_aload_n (pc := 203) 0 dX12_partOf_203 rfl rfl ?_
                    refine s_iload_n (pc := 204) 3 dX12_partOf_204 rfl rfl ?_
                    refine s_iconst (pc := 205) 2 dX12_partOf_205 kc_2 ?_
                    refine s_bind (fun q42 hq43 => ?_)
                    have hC44 := t_X12_fact (l := xl X) (G := xG X) hq43
                    refine s_callV (pc := 206) (As := [.int s18.2, .int 2]) (st := []) (nlt rfl) (q := (RX12, TX12, 59)) rfl rfl o26 cl_X12_fact wi_X12_fact wl_X12_fact km_X12_194 rfl rfl (Nat.le_trans (nle rfl : _ ≤ 3) (Nat.le_add_right 3 _)) (nle rfl) (nle rfl) dX12_partOf_206 hC44 ?_
                    show S0 X _ s23.1 209 [some (.ref (gh (xG X) + a0)), some (.int p1), some (.int q10), some (.int s18.2), some (.int s23.2)] [.int q42] _
                    refine s_bind (fun q45 hq46 => ?_)
                    have hC47 := t_X12_longOf (l := xl X) (G := xG X) (M := s23.1) hq46
                    refine s_callS (pc := 209) (As := [.int q42]) (st := []) cl_X12_longOf wt_X12_longOf km_X12_156 rfl rfl (Nat.le_trans (nle rfl : _ ≤ 3) (Nat.le_add_right 3 _)) (nle rfl) (nle rfl) dX12_partOf_209 hC47 ?_
                    show S0 X _ s23.1 212 [some (.ref (gh (xG X) + a0)), some (.int p1), some (.int q10), some (.int s18.2), some (.int s23.2)] [.int q45] _
                    refine s_i2l (pc := 212) dX12_partOf_212 ?_
                    refine s_goto (pc := 213) 219 dX12_partOf_213 rfl ?_
                    exact s_lret rfl dX12_partOf_219
              · refine s_aload_n (pc := 178) 0 dX12_partOf_178 rfl rfl ?_
                refine s_geto (pc := 179) F_12 30 rfl o26 dX12_partOf_179 kf_X12_61 ?_
                refine s_rvB (fun r48 => ?_)
                refine s_iload_n (pc := 182) 2 dX12_partOf_182 rfl rfl ?_
                refine s_bipush (pc := 183) 7 dX12_partOf_183 kb_7 ?_
                refine s_isub (pc := 185) dX12_partOf_185 ?_
                refine s_grd (fun o49 => ?_)
                refine s_grd (fun i50 => ?_)
                refine s_iald (pc := 186) o49 i50 dX12_partOf_186 ?_
                refine s_i2l (pc := 187) dX12_partOf_187 ?_
                exact s_lret rfl dX12_partOf_188
            · refine s_aload_n (pc := 154) 0 dX12_partOf_154 rfl rfl ?_
              refine s_geto (pc := 155) F_12 3 rfl o26 dX12_partOf_155 kf_X12_20 ?_
              refine s_rvB (fun r51 => ?_)
              refine s_sipush (pc := 158) 2866 dX12_partOf_158 ks_2866 ?_
              refine s_aload_n (pc := 161) 0 dX12_partOf_161 rfl rfl ?_
              refine s_geti (pc := 162) F_12 26 rfl o26 dX12_partOf_162 kf_X12_309 ?_
              refine s_iadd (pc := 165) dX12_partOf_165 ?_
              refine s_iconst (pc := 166) 1 dX12_partOf_166 kc_1 ?_
              refine s_isub (pc := 167) dX12_partOf_167 ?_
              refine s_grd (fun o52 => ?_)
              refine s_grd (fun i53 => ?_)
              refine s_iald (pc := 168) o52 i53 dX12_partOf_168 ?_
              refine s_i2l (pc := 169) dX12_partOf_169 ?_
              exact s_lret rfl dX12_partOf_170
          · refine s_lconst (pc := 146) 0 dX12_partOf_146 kl_0 ?_
            exact s_lret rfl dX12_partOf_147
      · refine s_ifeq (pc := 101) 135 dX12_partOf_101 rfl ?_ ?_
        · exact s_drop (hj25 (s18.1, 0) Le.rf) (And.intro rfl (And.intro rfl (And.intro rfl (And.intro rfl (And.intro rfl trivial)))))
        · refine s_iload_n (pc := 104) 2 dX12_partOf_104 rfl rfl ?_
          refine s_bipush (pc := 105) 11 dX12_partOf_105 kb_11 ?_
          refine s_icne (pc := 107) 135 dX12_partOf_107 rfl ?_ ?_
          · exact s_drop (hj25 (s18.1, 0) Le.rf) (And.intro rfl (And.intro rfl (And.intro rfl (And.intro rfl (And.intro rfl trivial)))))
          · refine s_aload_n (pc := 110) 0 dX12_partOf_110 rfl rfl ?_
            refine s_geto (pc := 111) F_12 3 rfl o21 dX12_partOf_111 kf_X12_20 ?_
            refine s_rvB (fun r54 => ?_)
            refine s_sipush (pc := 114) 2866 dX12_partOf_114 ks_2866 ?_
            refine s_aload_n (pc := 117) 0 dX12_partOf_117 rfl rfl ?_
            refine s_geti (pc := 118) F_12 26 rfl o21 dX12_partOf_118 kf_X12_309 ?_
            refine s_iadd (pc := 121) dX12_partOf_121 ?_
            refine s_grd (fun o55 => ?_)
            refine s_grd (fun i56 => ?_)
            refine s_iald (pc := 122) o55 i56 dX12_partOf_122 ?_
            refine s_istore (pc := 123) dX12_partOf_123 (nlt rfl) rfl (L' := [some (.ref (gh (xG X) + a0)), some (.int p1), some (.int q10), some (.int s18.2), some (.int (mI s18.1 r54 (2866 + (mI s18.1 a0 26)).toNatClampNeg))]) rfl ?_
            refine s_bv (fun x57 : Int32 => [some (.ref (gh (xG X) + a0)), some (.int p1), some (.int q10), some (.int s18.2), some (.int x57)]) (fun x57 => ?_) rfl
            refine s_aload_n (pc := 125) 0 dX12_partOf_125 rfl rfl ?_
            refine s_dup (pc := 126) dX12_partOf_126 rfl ?_
            refine s_geti (pc := 127) F_12 26 rfl o21 dX12_partOf_127 kf_X12_309 ?_
            refine s_iconst (pc := 130) 1 dX12_partOf_130 kc_1 ?_
            refine s_iadd (pc := 131) dX12_partOf_131 ?_
            refine s_puti (pc := 132) F_12 26 rfl o21 rfl rfl rfl dX12_partOf_132 kf_X12_309 (fun M58 hM59 => ?_)
            have h60 := le_wI hM59
            have o61 := h60.ok o21
            exact s_drop (hj25 (M58, x57) h60) (And.intro rfl (And.intro rfl (And.intro rfl (And.intro rfl (And.intro rfl trivial)))))
    · refine s_ifeq (pc := 58) 97 dX12_partOf_58 rfl ?_ ?_
      · exact s_drop (hj20 (M13, 0) Le.rf) (And.intro rfl (And.intro rfl (And.intro rfl (And.intro rfl (And.intro rfl trivial)))))
      · refine s_iload_n (pc := 61) 2 dX12_partOf_61 rfl rfl ?_
        refine s_bipush (pc := 62) 10 dX12_partOf_62 kb_10 ?_
        refine s_join M13 (fun s63 : Unit => M13) 73 (fun s63 : Unit => [some (.ref (gh (xG X) + a0)), some (.int p1), some (.int q10), none, some (.int 0)]) (fun s63 : Unit => []) (fun s63 hs64 => ?_) (fun j62 hj65 => ?_)
        · show S0 X _ M13 73 [some (.ref (gh (xG X) + a0)), some (.int p1), some (.int q10), none, some (.int 0)] [] _
          refine s_aload_n (pc := 73) 0 dX12_partOf_73 rfl rfl ?_
          refine s_geto (pc := 74) F_12 3 rfl o16 dX12_partOf_74 kf_X12_20 ?_
          refine s_rvB (fun r66 => ?_)
          refine s_sipush (pc := 77) 2866 dX12_partOf_77 ks_2866 ?_
          refine s_aload_n (pc := 80) 0 dX12_partOf_80 rfl rfl ?_
          refine s_geti (pc := 81) F_12 26 rfl o16 dX12_partOf_81 kf_X12_309 ?_
          refine s_iadd (pc := 84) dX12_partOf_84 ?_
          refine s_grd (fun o67 => ?_)
          refine s_grd (fun i68 => ?_)
          refine s_iald (pc := 85) o67 i68 dX12_partOf_85 ?_
          refine s_istore_n (pc := 86) 3 dX12_partOf_86 rfl (nlt rfl) rfl (L' := [some (.ref (gh (xG X) + a0)), some (.int p1), some (.int q10), some (.int (mI M13 r66 (2866 + (mI M13 a0 26)).toNatClampNeg)), some (.int 0)]) rfl ?_
          refine s_bv (fun x69 : Int32 => [some (.ref (gh (xG X) + a0)), some (.int p1), some (.int q10), some (.int x69), some (.int 0)]) (fun x69 => ?_) rfl
          refine s_aload_n (pc := 87) 0 dX12_partOf_87 rfl rfl ?_
          refine s_dup (pc := 88) dX12_partOf_88 rfl ?_
          refine s_geti (pc := 89) F_12 26 rfl o16 dX12_partOf_89 kf_X12_309 ?_
          refine s_iconst (pc := 92) 1 dX12_partOf_92 kc_1 ?_
          refine s_iadd (pc := 93) dX12_partOf_93 ?_
          refine s_puti (pc := 94) F_12 26 rfl o16 rfl rfl rfl dX12_partOf_94 kf_X12_309 (fun M70 hM71 => ?_)
          have h72 := le_wI hM71
          have o73 := h72.ok o16
          exact s_drop (hj20 (M70, x69) h72) (And.intro rfl (And.intro rfl (And.intro rfl (And.intro rfl (And.intro rfl trivial)))))
        · refine s_iceq (pc := 64) 73 dX12_partOf_64 rfl ?_ ?_
          · exact s_drop (hj65 () Le.rf) (And.intro rfl (And.intro rfl (And.intro rfl (And.intro rfl trivial))))
          · refine s_iload_n (pc := 67) 2 dX12_partOf_67 rfl rfl ?_
            refine s_bipush (pc := 68) 11 dX12_partOf_68 kb_11 ?_
            refine s_icne (pc := 70) 97 dX12_partOf_70 rfl ?_ ?_
            · exact s_drop (hj20 (M13, 0) Le.rf) (And.intro rfl (And.intro rfl (And.intro rfl (And.intro rfl (And.intro rfl trivial)))))
            · exact s_drop (hj65 () Le.rf) (And.intro rfl (And.intro rfl (And.intro rfl (And.intro rfl trivial))))
  · refine s_aload_n (pc := 12) 0 dX12_partOf_12 rfl rfl ?_
    refine s_iload_n (pc := 13) 1 dX12_partOf_13 rfl rfl ?_
    refine s_bind (fun q74 hq75 => ?_)
    have hC76 := hg_X12_sumOf X rfl rfl q5.1 a0 p1 q74 hq75
    refine s_callV (pc := 14) (As := [.int p1]) (st := []) (nlt rfl) (q := (RX12, TX12, 59)) rfl rfl o9 cl_X12_sumOf wi_X12_sumOf wl_X12_sumOf km_X12_336 rfl rfl (Nat.le_refl _) (nle rfl) (nle rfl) dX12_partOf_14 hC76 ?_
    have h77 := hC76.1 X
    have o78 := h77.ok o9
    show S0 X _ q74.1 17 [some (.ref (gh (xG X) + a0)), some (.int p1), none, none, none] [.long q74.2] _
    refine s_lstore_n (pc := 17) 2 dX12_partOf_17 rfl (nlt rfl) rfl (L' := [some (.ref (gh (xG X) + a0)), some (.int p1), some (.long q74.2), none, none]) rfl ?_
    refine s_aload_n (pc := 18) 0 dX12_partOf_18 rfl rfl ?_
    refine s_dup (pc := 19) dX12_partOf_19 rfl ?_
    refine s_geti (pc := 20) F_12 26 rfl o78 dX12_partOf_20 kf_X12_309 ?_
    refine s_iconst (pc := 23) 1 dX12_partOf_23 kc_1 ?_
    refine s_iadd (pc := 24) dX12_partOf_24 ?_
    refine s_puti (pc := 25) F_12 26 rfl o78 rfl rfl rfl dX12_partOf_25 kf_X12_309 (fun M79 hM80 => ?_)
    have h81 := le_wI hM80
    have o82 := h81.ok o78
    refine s_lload_n (pc := 28) 2 dX12_partOf_28 rfl rfl ?_
    exact s_lret rfl dX12_partOf_29
set_option maxRecDepth 100000 in
set_option maxHeartbeats 8000000 in
noncomputable def b_X12_sumOf (g_X12_termOf : Mem → Nat → Int32 → Option (Mem × Int64)) (M : Mem) (a0 : Nat) (p1 : Int32) : Option (Mem × Int64) :=
  grd (okO M 12 a0) (Option.bind (g_X12_termOf M a0 p1) (fun q2 => Option.bind (loopO (σ := Mem × Int64) (ρ := Mem × Int64) (fun s7 => Option.bind (f_X12_codeAt s7.1 a0 (mI s7.1 a0 26)) (fun q16 => Option.bind (f_X12_sign 43) (fun q19 => bv (fun (s23 : Unit) => Option.bind (f_X12_codeAt s7.1 a0 (mI s7.1 a0 26)) (fun q26 => Option.bind (f_X12_sign 43) (fun q29 => bv (fun (s33 : Int32) => bv (wI s7.1 a0 26 ((mI s7.1 a0 26) + 1)) (fun M36 => Option.bind (g_X12_termOf M36 a0 p1) (fun q40 => bv (fun (s46 : Int64) => Option.bind (f_X12_bounded q40.1 a0 s46 p1) (fun q49 => some (.inl (q49.1, q49.2)))) (fun j45 => if s33 = 0 then (j45 (s7.2 - q40.2)) else (j45 (s7.2 + q40.2)))))) (fun j32 => if q26 = q29 then (j32 1) else (j32 0))))) (fun j22 => if q16 = q19 then (j22 ()) else (Option.bind (f_X12_codeAt s7.1 a0 (mI s7.1 a0 26)) (fun q54 => Option.bind (f_X12_sign 45) (fun q57 => if q54 = q57 then (j22 ()) else (some (.inr (s7.1, s7.2)))))))))) (q2.1, q2.2)) (fun (x14 : Mem × Int64) => some (x14.1, x14.2))))
set_option maxRecDepth 100000 in
set_option maxHeartbeats 8000000 in
theorem t_X12_sumOf {d : Nat} {g_X12_termOf : Mem → Nat → Int32 → Option (Mem × Int64)} {l : Launch} {G : Gh} {M : Mem} {a0 : Nat} {p1 : Int32} {q : Mem × Int64} (hg_X12_termOf : ∀ X : Ctx, xG X = G → xl X = l → ∀ (M : Mem) (a0 : Nat) (p1 : Int32) (q : Mem × Int64), g_X12_termOf M a0 p1 = some q → Ctr (xl X) (xG X) yX12_termOf (Y_X12_termOf d) M [.ref (gh (xG X) + a0), .int p1] q.1 (some (.long q.2))) (h : b_X12_sumOf g_X12_termOf M a0 p1 = some q) : Ctr l G yX12_sumOf (Y_X12_sumOf (d + 1)) M [.ref (gh G + a0), .int p1] q.1 (some (.long q.2)) := by
  refine Ctr.of (Y := (Y_X12_sumOf (d + 1))) (L := [some (.ref (gh G + a0)), some (.int p1), none, none, none, none, none]) (t := Option.bind (b_X12_sumOf g_X12_termOf M a0 p1) (fun q => some (q.1, some (.long q.2)))) (by decide) rfl rfl (nle rfl) (Lof_in 5 _ rfl) (fun X hG hl => ?_) (by rw [h]; rfl)
  subst hG
  subst hl
  unfold b_X12_sumOf
  refine s_aload_n (pc := 0) 0 dX12_sumOf_0 rfl rfl ?_
  refine s_iload_n (pc := 1) 1 dX12_sumOf_1 rfl rfl ?_
  refine s_grd (fun o1 => ?_)
  refine s_bind (fun q2 hq3 => ?_)
  have hC4 := hg_X12_termOf X rfl rfl M a0 p1 q2 hq3
  refine s_callV (pc := 2) (As := [.int p1]) (st := []) (nlt rfl) (q := (RX12, TX12, 59)) rfl rfl o1 cl_X12_termOf wi_X12_termOf wl_X12_termOf km_X12_322 rfl rfl (Nat.le_refl _) (nle rfl) (nle rfl) dX12_sumOf_2 hC4 ?_
  have h5 := hC4.1 X
  have o6 := h5.ok o1
  show S0 X _ q2.1 5 [some (.ref (gh (xG X) + a0)), some (.int p1), none, none, none, none, none] [.long q2.2] _
  refine s_lstore_n (pc := 5) 2 dX12_sumOf_5 rfl (nlt rfl) rfl (L' := [some (.ref (gh (xG X) + a0)), some (.int p1), some (.long q2.2), none, none, none, none]) rfl ?_
  refine s_drop (L' := [some (.ref (gh (xG X) + a0)), some (.int p1), some (.long q2.2), none, none, none, none]) ?_ (And.intro rfl (And.intro rfl (And.intro rfl trivial)))
  refine s_loop1 q2.1 (fun s7 : Mem × Int64 => s7.1) (fun s7 : Mem × Int64 => [some (.ref (gh (xG X) + a0)), some (.int p1), some (.long s7.2), none, none, none, none]) (fun x14 : Mem × Int64 => x14.1) 103 (fun x14 : Mem × Int64 => [none, none, some (.long x14.2), none, none, none, none]) (fun x14 hx15 => ?_) (fun T9 R11 hT10 hR12 s7 hs8 => ?_) (q2.1, q2.2) Le.rf
  · show S0 X _ x14.1 103 [none, none, some (.long x14.2), none, none, none, none] [] _
    refine s_lload_n (pc := 103) 2 dX12_sumOf_103 rfl rfl ?_
    exact s_lret rfl dX12_sumOf_104
  · show S0 X _ s7.1 6 [some (.ref (gh (xG X) + a0)), some (.int p1), some (.long s7.2), none, none, none, none] [] _
    have o13 := hs8.ok o6
    refine s_aload_n (pc := 6) 0 dX12_sumOf_6 rfl rfl ?_
    refine s_aload_n (pc := 7) 0 dX12_sumOf_7 rfl rfl ?_
    refine s_geti (pc := 8) F_12 26 rfl o13 dX12_sumOf_8 kf_X12_309 ?_
    refine s_bind (fun q16 hq17 => ?_)
    have hC18 := t_X12_codeAt (l := xl X) (G := xG X) hq17
    refine s_callV (pc := 11) (As := [.int (mI s7.1 a0 26)]) (st := []) (nlt rfl) (q := (RX12, TX12, 59)) rfl rfl o13 cl_X12_codeAt wi_X12_codeAt wl_X12_codeAt km_X12_312 rfl rfl (Nat.le_trans (nle rfl : _ ≤ 3) (Nat.le_add_right 3 _)) (nle rfl) (nle rfl) dX12_sumOf_11 hC18 ?_
    show S0 X _ s7.1 14 [some (.ref (gh (xG X) + a0)), some (.int p1), some (.long s7.2), none, none, none, none] [.int q16] _
    refine s_bipush (pc := 14) 43 dX12_sumOf_14 kb_43 ?_
    refine s_bind (fun q19 hq20 => ?_)
    have hC21 := t_X12_sign (l := xl X) (G := xG X) (M := s7.1) hq20
    refine s_callS (pc := 16) (As := [.int 43]) (st := [.int q16]) cl_X12_sign wt_X12_sign km_X12_278 rfl rfl (Nat.le_trans (nle rfl : _ ≤ 3) (Nat.le_add_right 3 _)) (nle rfl) (nle rfl) dX12_sumOf_16 hC21 ?_
    show S0 X _ s7.1 19 [some (.ref (gh (xG X) + a0)), some (.int p1), some (.long s7.2), none, none, none, none] [.int q19, .int q16] _
    refine s_join s7.1 (fun s23 : Unit => s7.1) 38 (fun s23 : Unit => [some (.ref (gh (xG X) + a0)), some (.int p1), some (.long s7.2), none, none, none, none]) (fun s23 : Unit => []) (fun s23 hs24 => ?_) (fun j22 hj25 => ?_)
    · show S0 X _ s7.1 38 [some (.ref (gh (xG X) + a0)), some (.int p1), some (.long s7.2), none, none, none, none] [] _
      refine s_aload_n (pc := 38) 0 dX12_sumOf_38 rfl rfl ?_
      refine s_aload_n (pc := 39) 0 dX12_sumOf_39 rfl rfl ?_
      refine s_geti (pc := 40) F_12 26 rfl o13 dX12_sumOf_40 kf_X12_309 ?_
      refine s_bind (fun q26 hq27 => ?_)
      have hC28 := t_X12_codeAt (l := xl X) (G := xG X) hq27
      refine s_callV (pc := 43) (As := [.int (mI s7.1 a0 26)]) (st := []) (nlt rfl) (q := (RX12, TX12, 59)) rfl rfl o13 cl_X12_codeAt wi_X12_codeAt wl_X12_codeAt km_X12_312 rfl rfl (Nat.le_trans (nle rfl : _ ≤ 3) (Nat.le_add_right 3 _)) (nle rfl) (nle rfl) dX12_sumOf_43 hC28 ?_
      show S0 X _ s7.1 46 [some (.ref (gh (xG X) + a0)), some (.int p1), some (.long s7.2), none, none, none, none] [.int q26] _
      refine s_bipush (pc := 46) 43 dX12_sumOf_46 kb_43 ?_
      refine s_bind (fun q29 hq30 => ?_)
      have hC31 := t_X12_sign (l := xl X) (G := xG X) (M := s7.1) hq30
      refine s_callS (pc := 48) (As := [.int 43]) (st := [.int q26]) cl_X12_sign wt_X12_sign km_X12_278 rfl rfl (Nat.le_trans (nle rfl : _ ≤ 3) (Nat.le_add_right 3 _)) (nle rfl) (nle rfl) dX12_sumOf_48 hC31 ?_
      show S0 X _ s7.1 51 [some (.ref (gh (xG X) + a0)), some (.int p1), some (.long s7.2), none, none, none, none] [.int q29, .int q26] _
      refine s_join s7.1 (fun s33 : Int32 => s7.1) 59 (fun s33 : Int32 => [some (.ref (gh (xG X) + a0)), some (.int p1), some (.long s7.2), none, none, none, none]) (fun s33 : Int32 => [.int s33]) (fun s33 hs34 => ?_) (fun j32 hj35 => ?_)
      · show S0 X _ s7.1 59 [some (.ref (gh (xG X) + a0)), some (.int p1), some (.long s7.2), none, none, none, none] [.int s33] _
        refine s_istore (pc := 59) dX12_sumOf_59 (nlt rfl) rfl (L' := [some (.ref (gh (xG X) + a0)), some (.int p1), some (.long s7.2), none, some (.int s33), none, none]) rfl ?_
        refine s_aload_n (pc := 61) 0 dX12_sumOf_61 rfl rfl ?_
        refine s_dup (pc := 62) dX12_sumOf_62 rfl ?_
        refine s_geti (pc := 63) F_12 26 rfl o13 dX12_sumOf_63 kf_X12_309 ?_
        refine s_iconst (pc := 66) 1 dX12_sumOf_66 kc_1 ?_
        refine s_iadd (pc := 67) dX12_sumOf_67 ?_
        refine s_puti (pc := 68) F_12 26 rfl o13 rfl rfl rfl dX12_sumOf_68 kf_X12_309 (fun M36 hM37 => ?_)
        have h38 := le_wI hM37
        have o39 := h38.ok o13
        refine s_aload_n (pc := 71) 0 dX12_sumOf_71 rfl rfl ?_
        refine s_iload_n (pc := 72) 1 dX12_sumOf_72 rfl rfl ?_
        refine s_bind (fun q40 hq41 => ?_)
        have hC42 := hg_X12_termOf X rfl rfl M36 a0 p1 q40 hq41
        refine s_callV (pc := 73) (As := [.int p1]) (st := []) (nlt rfl) (q := (RX12, TX12, 59)) rfl rfl o39 cl_X12_termOf wi_X12_termOf wl_X12_termOf km_X12_322 rfl rfl (Nat.le_refl _) (nle rfl) (nle rfl) dX12_sumOf_73 hC42 ?_
        have h43 := hC42.1 X
        have o44 := h43.ok o39
        show S0 X _ q40.1 76 [some (.ref (gh (xG X) + a0)), some (.int p1), some (.long s7.2), none, some (.int s33), none, none] [.long q40.2] _
        refine s_lstore (pc := 76) dX12_sumOf_76 (nlt rfl) rfl (L' := [some (.ref (gh (xG X) + a0)), some (.int p1), some (.long s7.2), none, some (.int s33), some (.long q40.2), none]) rfl ?_
        refine s_aload_n (pc := 78) 0 dX12_sumOf_78 rfl rfl ?_
        refine s_iload (pc := 79) dX12_sumOf_79 rfl ?_
        refine s_join q40.1 (fun s46 : Int64 => q40.1) 95 (fun s46 : Int64 => [some (.ref (gh (xG X) + a0)), some (.int p1), none, none, none, none, none]) (fun s46 : Int64 => [.long s46, .ref (gh (xG X) + a0)]) (fun s46 hs47 => ?_) (fun j45 hj48 => ?_)
        · show S0 X _ q40.1 95 [some (.ref (gh (xG X) + a0)), some (.int p1), none, none, none, none, none] [.long s46, .ref (gh (xG X) + a0)] _
          refine s_iload_n (pc := 95) 1 dX12_sumOf_95 rfl rfl ?_
          refine s_bind (fun q49 hq50 => ?_)
          have hC51 := t_X12_bounded (l := xl X) (G := xG X) hq50
          refine s_callV (pc := 96) (As := [.long s46, .int p1]) (st := []) (nlt rfl) (q := (RX12, TX12, 59)) rfl rfl o44 cl_X12_bounded wi_X12_bounded wl_X12_bounded km_X12_326 rfl rfl (Nat.le_trans (nle rfl : _ ≤ 3) (Nat.le_add_right 3 _)) (nle rfl) (nle rfl) dX12_sumOf_96 hC51 ?_
          have h52 := hC51.1 X
          have o53 := h52.ok o44
          show S0 X _ q49.1 99 [some (.ref (gh (xG X) + a0)), some (.int p1), none, none, none, none, none] [.long q49.2] _
          refine s_lstore_n (pc := 99) 2 dX12_sumOf_99 rfl (nlt rfl) rfl (L' := [some (.ref (gh (xG X) + a0)), some (.int p1), some (.long q49.2), none, none, none, none]) rfl ?_
          refine s_goto (pc := 100) 6 dX12_sumOf_100 rfl ?_
          exact s_drop (hT10 (q49.1, q49.2) (hs8.tr (h38.tr (h43.tr h52)))) (And.intro rfl (And.intro rfl (And.intro rfl trivial)))
        · refine s_ifeq (pc := 81) 91 dX12_sumOf_81 rfl ?_ ?_
          · refine s_lload_n (pc := 91) 2 dX12_sumOf_91 rfl rfl ?_
            refine s_lload (pc := 92) dX12_sumOf_92 rfl ?_
            refine s_lsub (pc := 94) dX12_sumOf_94 ?_
            exact s_drop (hj48 (s7.2 - q40.2) Le.rf) (And.intro rfl (And.intro rfl trivial))
          · refine s_lload_n (pc := 84) 2 dX12_sumOf_84 rfl rfl ?_
            refine s_lload (pc := 85) dX12_sumOf_85 rfl ?_
            refine s_ladd (pc := 87) dX12_sumOf_87 ?_
            refine s_goto (pc := 88) 95 dX12_sumOf_88 rfl ?_
            exact s_drop (hj48 (s7.2 + q40.2) Le.rf) (And.intro rfl (And.intro rfl trivial))
      · refine s_icne (pc := 51) 58 dX12_sumOf_51 rfl ?_ ?_
        · refine s_iconst (pc := 58) 0 dX12_sumOf_58 kc_0 ?_
          exact s_drop (hj35 0 Le.rf) (And.intro rfl (And.intro rfl (And.intro rfl trivial)))
        · refine s_iconst (pc := 54) 1 dX12_sumOf_54 kc_1 ?_
          refine s_goto (pc := 55) 59 dX12_sumOf_55 rfl ?_
          exact s_drop (hj35 1 Le.rf) (And.intro rfl (And.intro rfl (And.intro rfl trivial)))
    · refine s_iceq (pc := 19) 38 dX12_sumOf_19 rfl ?_ ?_
      · exact s_drop (hj25 () Le.rf) (And.intro rfl (And.intro rfl (And.intro rfl trivial)))
      · refine s_aload_n (pc := 22) 0 dX12_sumOf_22 rfl rfl ?_
        refine s_aload_n (pc := 23) 0 dX12_sumOf_23 rfl rfl ?_
        refine s_geti (pc := 24) F_12 26 rfl o13 dX12_sumOf_24 kf_X12_309 ?_
        refine s_bind (fun q54 hq55 => ?_)
        have hC56 := t_X12_codeAt (l := xl X) (G := xG X) hq55
        refine s_callV (pc := 27) (As := [.int (mI s7.1 a0 26)]) (st := []) (nlt rfl) (q := (RX12, TX12, 59)) rfl rfl o13 cl_X12_codeAt wi_X12_codeAt wl_X12_codeAt km_X12_312 rfl rfl (Nat.le_trans (nle rfl : _ ≤ 3) (Nat.le_add_right 3 _)) (nle rfl) (nle rfl) dX12_sumOf_27 hC56 ?_
        show S0 X _ s7.1 30 [some (.ref (gh (xG X) + a0)), some (.int p1), some (.long s7.2), none, none, none, none] [.int q54] _
        refine s_bipush (pc := 30) 45 dX12_sumOf_30 kb_45 ?_
        refine s_bind (fun q57 hq58 => ?_)
        have hC59 := t_X12_sign (l := xl X) (G := xG X) (M := s7.1) hq58
        refine s_callS (pc := 32) (As := [.int 45]) (st := [.int q54]) cl_X12_sign wt_X12_sign km_X12_278 rfl rfl (Nat.le_trans (nle rfl : _ ≤ 3) (Nat.le_add_right 3 _)) (nle rfl) (nle rfl) dX12_sumOf_32 hC59 ?_
        show S0 X _ s7.1 35 [some (.ref (gh (xG X) + a0)), some (.int p1), some (.long s7.2), none, none, none, none] [.int q57, .int q54] _
        refine s_icne (pc := 35) 103 dX12_sumOf_35 rfl ?_ ?_
        · exact s_drop (hR12 (s7.1, s7.2) hs8) (And.intro rfl trivial)
        · exact s_drop (hj25 () Le.rf) (And.intro rfl (And.intro rfl (And.intro rfl trivial)))
set_option maxRecDepth 100000 in
set_option maxHeartbeats 8000000 in
noncomputable def b_X12_termOf (g_X12_partOf : Mem → Nat → Int32 → Option (Mem × Int64)) (M : Mem) (a0 : Nat) (p1 : Int32) : Option (Mem × Int64) :=
  grd (okO M 12 a0) (Option.bind (g_X12_partOf M a0 p1) (fun q2 => Option.bind (loopO (σ := Mem × Int64) (ρ := Mem × Int64) (fun s7 => Option.bind (f_X12_codeAt s7.1 a0 (mI s7.1 a0 26)) (fun q16 => Option.bind (f_X12_sign 42) (fun q19 => bv (fun (s23 : Unit) => Option.bind (f_X12_codeAt s7.1 a0 (mI s7.1 a0 26)) (fun q26 => bv (wI s7.1 a0 26 ((mI s7.1 a0 26) + 1)) (fun M29 => Option.bind (g_X12_partOf M29 a0 p1) (fun q33 => Option.bind (f_X12_sign 42) (fun q38 => bv (fun (s42 : Mem × Int64) => Option.bind (f_X12_sign 42) (fun q46 => bv (fun (s50 : Int64) => Option.bind (f_X12_bounded s42.1 a0 s50 p1) (fun q53 => some (.inl (q53.1, q53.2)))) (fun j49 => if q26 = q46 then (j49 (s7.2 * s42.2)) else (Option.bind (f_X12_sign 47) (fun q58 => if q26 = q58 then (grd (¬ s42.2 = 0) (j49 (s7.2 / s42.2))) else (grd (¬ s42.2 = 0) (j49 (lr s7.2 s42.2)))))))) (fun j41 => if q26 = q38 then (j41 (q33.1, q33.2)) else (if (lg_cmp q33.2 0) = 0 then (bv (fun (s64 : Int32) => grd (pb s64) (bv (wI q33.1 a0 28 s64) (fun M67 => j41 (M67, 1)))) (fun j63 => bv (fun (s73 : Unit) => j63 1) (fun j72 => if (mI q33.1 a0 28) = 0 then (if p1 = 0 then (j63 0) else (j72 ())) else (j72 ())))) else (j41 (q33.1, q33.2))))))))) (fun j22 => if q16 = q19 then (j22 ()) else (Option.bind (f_X12_codeAt s7.1 a0 (mI s7.1 a0 26)) (fun q76 => Option.bind (f_X12_sign 47) (fun q79 => if q76 = q79 then (j22 ()) else (Option.bind (f_X12_codeAt s7.1 a0 (mI s7.1 a0 26)) (fun q82 => Option.bind (f_X12_sign 37) (fun q85 => if q82 = q85 then (j22 ()) else (some (.inr (s7.1, s7.2))))))))))))) (q2.1, q2.2)) (fun (x14 : Mem × Int64) => some (x14.1, x14.2))))
set_option maxRecDepth 100000 in
set_option maxHeartbeats 8000000 in
theorem t_X12_termOf {d : Nat} {g_X12_partOf : Mem → Nat → Int32 → Option (Mem × Int64)} {l : Launch} {G : Gh} {M : Mem} {a0 : Nat} {p1 : Int32} {q : Mem × Int64} (hg_X12_partOf : ∀ X : Ctx, xG X = G → xl X = l → ∀ (M : Mem) (a0 : Nat) (p1 : Int32) (q : Mem × Int64), g_X12_partOf M a0 p1 = some q → Ctr (xl X) (xG X) yX12_partOf (Y_X12_partOf d) M [.ref (gh (xG X) + a0), .int p1] q.1 (some (.long q.2))) (h : b_X12_termOf g_X12_partOf M a0 p1 = some q) : Ctr l G yX12_termOf (Y_X12_termOf (d + 1)) M [.ref (gh G + a0), .int p1] q.1 (some (.long q.2)) := by
  refine Ctr.of (Y := (Y_X12_termOf (d + 1))) (L := [some (.ref (gh G + a0)), some (.int p1), none, none, none, none, none]) (t := Option.bind (b_X12_termOf g_X12_partOf M a0 p1) (fun q => some (q.1, some (.long q.2)))) (by decide) rfl rfl (nle rfl) (Lof_in 5 _ rfl) (fun X hG hl => ?_) (by rw [h]; rfl)
  subst hG
  subst hl
  unfold b_X12_termOf
  refine s_aload_n (pc := 0) 0 dX12_termOf_0 rfl rfl ?_
  refine s_iload_n (pc := 1) 1 dX12_termOf_1 rfl rfl ?_
  refine s_grd (fun o1 => ?_)
  refine s_bind (fun q2 hq3 => ?_)
  have hC4 := hg_X12_partOf X rfl rfl M a0 p1 q2 hq3
  refine s_callV (pc := 2) (As := [.int p1]) (st := []) (nlt rfl) (q := (RX12, TX12, 59)) rfl rfl o1 cl_X12_partOf wi_X12_partOf wl_X12_partOf km_X12_330 rfl rfl (Nat.le_refl _) (nle rfl) (nle rfl) dX12_termOf_2 hC4 ?_
  have h5 := hC4.1 X
  have o6 := h5.ok o1
  show S0 X _ q2.1 5 [some (.ref (gh (xG X) + a0)), some (.int p1), none, none, none, none, none] [.long q2.2] _
  refine s_lstore_n (pc := 5) 2 dX12_termOf_5 rfl (nlt rfl) rfl (L' := [some (.ref (gh (xG X) + a0)), some (.int p1), some (.long q2.2), none, none, none, none]) rfl ?_
  refine s_drop (L' := [some (.ref (gh (xG X) + a0)), some (.int p1), some (.long q2.2), none, none, none, none]) ?_ (And.intro rfl (And.intro rfl (And.intro rfl trivial)))
  refine s_loop1 q2.1 (fun s7 : Mem × Int64 => s7.1) (fun s7 : Mem × Int64 => [some (.ref (gh (xG X) + a0)), some (.int p1), some (.long s7.2), none, none, none, none]) (fun x14 : Mem × Int64 => x14.1) 168 (fun x14 : Mem × Int64 => [none, none, some (.long x14.2), none, none, none, none]) (fun x14 hx15 => ?_) (fun T9 R11 hT10 hR12 s7 hs8 => ?_) (q2.1, q2.2) Le.rf
  · show S0 X _ x14.1 168 [none, none, some (.long x14.2), none, none, none, none] [] _
    refine s_lload_n (pc := 168) 2 dX12_termOf_168 rfl rfl ?_
    exact s_lret rfl dX12_termOf_169
  · show S0 X _ s7.1 6 [some (.ref (gh (xG X) + a0)), some (.int p1), some (.long s7.2), none, none, none, none] [] _
    have o13 := hs8.ok o6
    refine s_aload_n (pc := 6) 0 dX12_termOf_6 rfl rfl ?_
    refine s_aload_n (pc := 7) 0 dX12_termOf_7 rfl rfl ?_
    refine s_geti (pc := 8) F_12 26 rfl o13 dX12_termOf_8 kf_X12_309 ?_
    refine s_bind (fun q16 hq17 => ?_)
    have hC18 := t_X12_codeAt (l := xl X) (G := xG X) hq17
    refine s_callV (pc := 11) (As := [.int (mI s7.1 a0 26)]) (st := []) (nlt rfl) (q := (RX12, TX12, 59)) rfl rfl o13 cl_X12_codeAt wi_X12_codeAt wl_X12_codeAt km_X12_312 rfl rfl (Nat.le_trans (nle rfl : _ ≤ 3) (Nat.le_add_right 3 _)) (nle rfl) (nle rfl) dX12_termOf_11 hC18 ?_
    show S0 X _ s7.1 14 [some (.ref (gh (xG X) + a0)), some (.int p1), some (.long s7.2), none, none, none, none] [.int q16] _
    refine s_bipush (pc := 14) 42 dX12_termOf_14 kb_42 ?_
    refine s_bind (fun q19 hq20 => ?_)
    have hC21 := t_X12_sign (l := xl X) (G := xG X) (M := s7.1) hq20
    refine s_callS (pc := 16) (As := [.int 42]) (st := [.int q16]) cl_X12_sign wt_X12_sign km_X12_278 rfl rfl (Nat.le_trans (nle rfl : _ ≤ 3) (Nat.le_add_right 3 _)) (nle rfl) (nle rfl) dX12_termOf_16 hC21 ?_
    show S0 X _ s7.1 19 [some (.ref (gh (xG X) + a0)), some (.int p1), some (.long s7.2), none, none, none, none] [.int q19, .int q16] _
    refine s_join s7.1 (fun s23 : Unit => s7.1) 54 (fun s23 : Unit => [some (.ref (gh (xG X) + a0)), some (.int p1), some (.long s7.2), none, none, none, none]) (fun s23 : Unit => []) (fun s23 hs24 => ?_) (fun j22 hj25 => ?_)
    · show S0 X _ s7.1 54 [some (.ref (gh (xG X) + a0)), some (.int p1), some (.long s7.2), none, none, none, none] [] _
      refine s_aload_n (pc := 54) 0 dX12_termOf_54 rfl rfl ?_
      refine s_aload_n (pc := 55) 0 dX12_termOf_55 rfl rfl ?_
      refine s_geti (pc := 56) F_12 26 rfl o13 dX12_termOf_56 kf_X12_309 ?_
      refine s_bind (fun q26 hq27 => ?_)
      have hC28 := t_X12_codeAt (l := xl X) (G := xG X) hq27
      refine s_callV (pc := 59) (As := [.int (mI s7.1 a0 26)]) (st := []) (nlt rfl) (q := (RX12, TX12, 59)) rfl rfl o13 cl_X12_codeAt wi_X12_codeAt wl_X12_codeAt km_X12_312 rfl rfl (Nat.le_trans (nle rfl : _ ≤ 3) (Nat.le_add_right 3 _)) (nle rfl) (nle rfl) dX12_termOf_59 hC28 ?_
      show S0 X _ s7.1 62 [some (.ref (gh (xG X) + a0)), some (.int p1), some (.long s7.2), none, none, none, none] [.int q26] _
      refine s_istore (pc := 62) dX12_termOf_62 (nlt rfl) rfl (L' := [some (.ref (gh (xG X) + a0)), some (.int p1), some (.long s7.2), none, some (.int q26), none, none]) rfl ?_
      refine s_aload_n (pc := 64) 0 dX12_termOf_64 rfl rfl ?_
      refine s_dup (pc := 65) dX12_termOf_65 rfl ?_
      refine s_geti (pc := 66) F_12 26 rfl o13 dX12_termOf_66 kf_X12_309 ?_
      refine s_iconst (pc := 69) 1 dX12_termOf_69 kc_1 ?_
      refine s_iadd (pc := 70) dX12_termOf_70 ?_
      refine s_puti (pc := 71) F_12 26 rfl o13 rfl rfl rfl dX12_termOf_71 kf_X12_309 (fun M29 hM30 => ?_)
      have h31 := le_wI hM30
      have o32 := h31.ok o13
      refine s_aload_n (pc := 74) 0 dX12_termOf_74 rfl rfl ?_
      refine s_iload_n (pc := 75) 1 dX12_termOf_75 rfl rfl ?_
      refine s_bind (fun q33 hq34 => ?_)
      have hC35 := hg_X12_partOf X rfl rfl M29 a0 p1 q33 hq34
      refine s_callV (pc := 76) (As := [.int p1]) (st := []) (nlt rfl) (q := (RX12, TX12, 59)) rfl rfl o32 cl_X12_partOf wi_X12_partOf wl_X12_partOf km_X12_330 rfl rfl (Nat.le_refl _) (nle rfl) (nle rfl) dX12_termOf_76 hC35 ?_
      have h36 := hC35.1 X
      have o37 := h36.ok o32
      show S0 X _ q33.1 79 [some (.ref (gh (xG X) + a0)), some (.int p1), some (.long s7.2), none, some (.int q26), none, none] [.long q33.2] _
      refine s_lstore (pc := 79) dX12_termOf_79 (nlt rfl) rfl (L' := [some (.ref (gh (xG X) + a0)), some (.int p1), some (.long s7.2), none, some (.int q26), some (.long q33.2), none]) rfl ?_
      refine s_iload (pc := 81) dX12_termOf_81 rfl ?_
      refine s_bipush (pc := 83) 42 dX12_termOf_83 kb_42 ?_
      refine s_bind (fun q38 hq39 => ?_)
      have hC40 := t_X12_sign (l := xl X) (G := xG X) (M := q33.1) hq39
      refine s_callS (pc := 85) (As := [.int 42]) (st := [.int q26]) cl_X12_sign wt_X12_sign km_X12_278 rfl rfl (Nat.le_trans (nle rfl : _ ≤ 3) (Nat.le_add_right 3 _)) (nle rfl) (nle rfl) dX12_termOf_85 hC40 ?_
      show S0 X _ q33.1 88 [some (.ref (gh (xG X) + a0)), some (.int p1), some (.long s7.2), none, some (.int q26), some (.long q33.2), none] [.int q38, .int q26] _
      refine s_join q33.1 (fun s42 : Mem × Int64 => s42.1) 121 (fun s42 : Mem × Int64 => [some (.ref (gh (xG X) + a0)), some (.int p1), some (.long s7.2), none, some (.int q26), some (.long s42.2), none]) (fun s42 : Mem × Int64 => []) (fun s42 hs43 => ?_) (fun j41 hj44 => ?_)
      · show S0 X _ s42.1 121 [some (.ref (gh (xG X) + a0)), some (.int p1), some (.long s7.2), none, some (.int q26), some (.long s42.2), none] [] _
        have o45 := hs43.ok o37
        refine s_aload_n (pc := 121) 0 dX12_termOf_121 rfl rfl ?_
        refine s_iload (pc := 122) dX12_termOf_122 rfl ?_
        refine s_bipush (pc := 124) 42 dX12_termOf_124 kb_42 ?_
        refine s_bind (fun q46 hq47 => ?_)
        have hC48 := t_X12_sign (l := xl X) (G := xG X) (M := s42.1) hq47
        refine s_callS (pc := 126) (As := [.int 42]) (st := [.int q26, .ref (gh (xG X) + a0)]) cl_X12_sign wt_X12_sign km_X12_278 rfl rfl (Nat.le_trans (nle rfl : _ ≤ 3) (Nat.le_add_right 3 _)) (nle rfl) (nle rfl) dX12_termOf_126 hC48 ?_
        show S0 X _ s42.1 129 [some (.ref (gh (xG X) + a0)), some (.int p1), some (.long s7.2), none, some (.int q26), some (.long s42.2), none] [.int q46, .int q26, .ref (gh (xG X) + a0)] _
        refine s_join s42.1 (fun s50 : Int64 => s42.1) 160 (fun s50 : Int64 => [some (.ref (gh (xG X) + a0)), some (.int p1), none, none, none, none, none]) (fun s50 : Int64 => [.long s50, .ref (gh (xG X) + a0)]) (fun s50 hs51 => ?_) (fun j49 hj52 => ?_)
        · show S0 X _ s42.1 160 [some (.ref (gh (xG X) + a0)), some (.int p1), none, none, none, none, none] [.long s50, .ref (gh (xG X) + a0)] _
          refine s_iload_n (pc := 160) 1 dX12_termOf_160 rfl rfl ?_
          refine s_bind (fun q53 hq54 => ?_)
          have hC55 := t_X12_bounded (l := xl X) (G := xG X) hq54
          refine s_callV (pc := 161) (As := [.long s50, .int p1]) (st := []) (nlt rfl) (q := (RX12, TX12, 59)) rfl rfl o45 cl_X12_bounded wi_X12_bounded wl_X12_bounded km_X12_326 rfl rfl (Nat.le_trans (nle rfl : _ ≤ 3) (Nat.le_add_right 3 _)) (nle rfl) (nle rfl) dX12_termOf_161 hC55 ?_
          have h56 := hC55.1 X
          have o57 := h56.ok o45
          show S0 X _ q53.1 164 [some (.ref (gh (xG X) + a0)), some (.int p1), none, none, none, none, none] [.long q53.2] _
          refine s_lstore_n (pc := 164) 2 dX12_termOf_164 rfl (nlt rfl) rfl (L' := [some (.ref (gh (xG X) + a0)), some (.int p1), some (.long q53.2), none, none, none, none]) rfl ?_
          refine s_goto (pc := 165) 6 dX12_termOf_165 rfl ?_
          exact s_drop (hT10 (q53.1, q53.2) (hs8.tr (h31.tr (h36.tr (hs43.tr h56))))) (And.intro rfl (And.intro rfl (And.intro rfl trivial)))
        · refine s_icne (pc := 129) 139 dX12_termOf_129 rfl ?_ ?_
          · refine s_iload (pc := 139) dX12_termOf_139 rfl ?_
            refine s_bipush (pc := 141) 47 dX12_termOf_141 kb_47 ?_
            refine s_bind (fun q58 hq59 => ?_)
            have hC60 := t_X12_sign (l := xl X) (G := xG X) (M := s42.1) hq59
            refine s_callS (pc := 143) (As := [.int 47]) (st := [.int q26, .ref (gh (xG X) + a0)]) cl_X12_sign wt_X12_sign km_X12_278 rfl rfl (Nat.le_trans (nle rfl : _ ≤ 3) (Nat.le_add_right 3 _)) (nle rfl) (nle rfl) dX12_termOf_143 hC60 ?_
            show S0 X _ s42.1 146 [some (.ref (gh (xG X) + a0)), some (.int p1), some (.long s7.2), none, some (.int q26), some (.long s42.2), none] [.int q58, .int q26, .ref (gh (xG X) + a0)] _
            refine s_icne (pc := 146) 156 dX12_termOf_146 rfl ?_ ?_
            · refine s_lload_n (pc := 156) 2 dX12_termOf_156 rfl rfl ?_
              refine s_lload (pc := 157) dX12_termOf_157 rfl ?_
              refine s_grd (fun g61 => ?_)
              refine s_lrem (pc := 159) dX12_termOf_159 g61 ?_
              exact s_drop (hj52 (lr s7.2 s42.2) Le.rf) (And.intro rfl (And.intro rfl trivial))
            · refine s_lload_n (pc := 149) 2 dX12_termOf_149 rfl rfl ?_
              refine s_lload (pc := 150) dX12_termOf_150 rfl ?_
              refine s_grd (fun g62 => ?_)
              refine s_ldiv (pc := 152) dX12_termOf_152 g62 ?_
              refine s_goto (pc := 153) 160 dX12_termOf_153 rfl ?_
              exact s_drop (hj52 (s7.2 / s42.2) Le.rf) (And.intro rfl (And.intro rfl trivial))
          · refine s_lload_n (pc := 132) 2 dX12_termOf_132 rfl rfl ?_
            refine s_lload (pc := 133) dX12_termOf_133 rfl ?_
            refine s_lmul (pc := 135) dX12_termOf_135 ?_
            refine s_goto (pc := 136) 160 dX12_termOf_136 rfl ?_
            exact s_drop (hj52 (s7.2 * s42.2) Le.rf) (And.intro rfl (And.intro rfl trivial))
      · refine s_iceq (pc := 88) 121 dX12_termOf_88 rfl ?_ ?_
        · exact s_drop (hj44 (q33.1, q33.2) Le.rf) (And.intro rfl (And.intro rfl (And.intro rfl (And.intro rfl (And.intro rfl trivial)))))
        · refine s_lload (pc := 91) dX12_termOf_91 rfl ?_
          refine s_lconst (pc := 93) 0 dX12_termOf_93 kl_0 ?_
          refine s_lcmp (pc := 94) dX12_termOf_94 ?_
          refine s_ifne (pc := 95) 121 dX12_termOf_95 rfl ?_ ?_
          · exact s_drop (hj44 (q33.1, q33.2) Le.rf) (And.intro rfl (And.intro rfl (And.intro rfl (And.intro rfl (And.intro rfl trivial)))))
          · refine s_aload_n (pc := 98) 0 dX12_termOf_98 rfl rfl ?_
            refine s_aload_n (pc := 99) 0 dX12_termOf_99 rfl rfl ?_
            refine s_geti (pc := 100) F_12 28 rfl o37 dX12_termOf_100 kf_X12_319 ?_
            refine s_join q33.1 (fun s64 : Int32 => q33.1) 115 (fun s64 : Int32 => [some (.ref (gh (xG X) + a0)), some (.int p1), some (.long s7.2), none, some (.int q26), none, none]) (fun s64 : Int32 => [.int s64, .ref (gh (xG X) + a0)]) (fun s64 hs65 => ?_) (fun j63 hj66 => ?_)
            · show S0 X _ q33.1 115 [some (.ref (gh (xG X) + a0)), some (.int p1), some (.long s7.2), none, some (.int q26), none, none] [.int s64, .ref (gh (xG X) + a0)] _
              refine s_grd (fun g70 => ?_)
              refine s_puti (pc := 115) F_12 28 rfl o37 rfl g70.1 g70.2 dX12_termOf_115 kf_X12_319 (fun M67 hM68 => ?_)
              have h69 := le_wI hM68
              have o71 := h69.ok o37
              refine s_lconst (pc := 118) 1 dX12_termOf_118 kl_1 ?_
              refine s_lstore (pc := 119) dX12_termOf_119 (nlt rfl) rfl (L' := [some (.ref (gh (xG X) + a0)), some (.int p1), some (.long s7.2), none, some (.int q26), some (.long 1), none]) rfl ?_
              exact s_drop (hj44 (M67, 1) h69) (And.intro rfl (And.intro rfl (And.intro rfl (And.intro rfl (And.intro rfl trivial)))))
            · refine s_join q33.1 (fun s73 : Unit => q33.1) 110 (fun s73 : Unit => [some (.ref (gh (xG X) + a0)), some (.int p1), some (.long s7.2), none, some (.int q26), none, none]) (fun s73 : Unit => [.ref (gh (xG X) + a0)]) (fun s73 hs74 => ?_) (fun j72 hj75 => ?_)
              · show S0 X _ q33.1 110 [some (.ref (gh (xG X) + a0)), some (.int p1), some (.long s7.2), none, some (.int q26), none, none] [.ref (gh (xG X) + a0)] _
                refine s_iconst (pc := 110) 1 dX12_termOf_110 kc_1 ?_
                refine s_goto (pc := 111) 115 dX12_termOf_111 rfl ?_
                exact s_drop (hj66 1 Le.rf) (And.intro rfl (And.intro rfl (And.intro rfl (And.intro rfl trivial))))
              · refine s_ifne (pc := 103) 110 dX12_termOf_103 rfl ?_ ?_
                · exact s_drop (hj75 () Le.rf) (And.intro rfl (And.intro rfl (And.intro rfl (And.intro rfl trivial))))
                · refine s_iload_n (pc := 106) 1 dX12_termOf_106 rfl rfl ?_
                  refine s_ifeq (pc := 107) 114 dX12_termOf_107 rfl ?_ ?_
                  · refine s_iconst (pc := 114) 0 dX12_termOf_114 kc_0 ?_
                    exact s_drop (hj66 0 Le.rf) (And.intro rfl (And.intro rfl (And.intro rfl (And.intro rfl trivial))))
                  · exact s_drop (hj75 () Le.rf) (And.intro rfl (And.intro rfl (And.intro rfl (And.intro rfl trivial))))
    · refine s_iceq (pc := 19) 54 dX12_termOf_19 rfl ?_ ?_
      · exact s_drop (hj25 () Le.rf) (And.intro rfl (And.intro rfl (And.intro rfl trivial)))
      · refine s_aload_n (pc := 22) 0 dX12_termOf_22 rfl rfl ?_
        refine s_aload_n (pc := 23) 0 dX12_termOf_23 rfl rfl ?_
        refine s_geti (pc := 24) F_12 26 rfl o13 dX12_termOf_24 kf_X12_309 ?_
        refine s_bind (fun q76 hq77 => ?_)
        have hC78 := t_X12_codeAt (l := xl X) (G := xG X) hq77
        refine s_callV (pc := 27) (As := [.int (mI s7.1 a0 26)]) (st := []) (nlt rfl) (q := (RX12, TX12, 59)) rfl rfl o13 cl_X12_codeAt wi_X12_codeAt wl_X12_codeAt km_X12_312 rfl rfl (Nat.le_trans (nle rfl : _ ≤ 3) (Nat.le_add_right 3 _)) (nle rfl) (nle rfl) dX12_termOf_27 hC78 ?_
        show S0 X _ s7.1 30 [some (.ref (gh (xG X) + a0)), some (.int p1), some (.long s7.2), none, none, none, none] [.int q76] _
        refine s_bipush (pc := 30) 47 dX12_termOf_30 kb_47 ?_
        refine s_bind (fun q79 hq80 => ?_)
        have hC81 := t_X12_sign (l := xl X) (G := xG X) (M := s7.1) hq80
        refine s_callS (pc := 32) (As := [.int 47]) (st := [.int q76]) cl_X12_sign wt_X12_sign km_X12_278 rfl rfl (Nat.le_trans (nle rfl : _ ≤ 3) (Nat.le_add_right 3 _)) (nle rfl) (nle rfl) dX12_termOf_32 hC81 ?_
        show S0 X _ s7.1 35 [some (.ref (gh (xG X) + a0)), some (.int p1), some (.long s7.2), none, none, none, none] [.int q79, .int q76] _
        refine s_iceq (pc := 35) 54 dX12_termOf_35 rfl ?_ ?_
        · exact s_drop (hj25 () Le.rf) (And.intro rfl (And.intro rfl (And.intro rfl trivial)))
        · refine s_aload_n (pc := 38) 0 dX12_termOf_38 rfl rfl ?_
          refine s_aload_n (pc := 39) 0 dX12_termOf_39 rfl rfl ?_
          refine s_geti (pc := 40) F_12 26 rfl o13 dX12_termOf_40 kf_X12_309 ?_
          refine s_bind (fun q82 hq83 => ?_)
          have hC84 := t_X12_codeAt (l := xl X) (G := xG X) hq83
          refine s_callV (pc := 43) (As := [.int (mI s7.1 a0 26)]) (st := []) (nlt rfl) (q := (RX12, TX12, 59)) rfl rfl o13 cl_X12_codeAt wi_X12_codeAt wl_X12_codeAt km_X12_312 rfl rfl (Nat.le_trans (nle rfl : _ ≤ 3) (Nat.le_add_right 3 _)) (nle rfl) (nle rfl) dX12_termOf_43 hC84 ?_
          show S0 X _ s7.1 46 [some (.ref (gh (xG X) + a0)), some (.int p1), some (.long s7.2), none, none, none, none] [.int q82] _
          refine s_bipush (pc := 46) 37 dX12_termOf_46 kb_37 ?_
          refine s_bind (fun q85 hq86 => ?_)
          have hC87 := t_X12_sign (l := xl X) (G := xG X) (M := s7.1) hq86
          refine s_callS (pc := 48) (As := [.int 37]) (st := [.int q82]) cl_X12_sign wt_X12_sign km_X12_278 rfl rfl (Nat.le_trans (nle rfl : _ ≤ 3) (Nat.le_add_right 3 _)) (nle rfl) (nle rfl) dX12_termOf_48 hC87 ?_
          show S0 X _ s7.1 51 [some (.ref (gh (xG X) + a0)), some (.int p1), some (.long s7.2), none, none, none, none] [.int q85, .int q82] _
          refine s_icne (pc := 51) 168 dX12_termOf_51 rfl ?_ ?_
          · exact s_drop (hR12 (s7.1, s7.2) hs8) (And.intro rfl trivial)
          · exact s_drop (hj25 () Le.rf) (And.intro rfl (And.intro rfl (And.intro rfl trivial)))
noncomputable def G_X12_partOf : Nat → (Mem → Nat → Int32 → Option (Mem × Int64)) × (Mem → Nat → Int32 → Option (Mem × Int64)) × (Mem → Nat → Int32 → Option (Mem × Int64))
  | 0 => ((fun _ _ _ => none), (fun _ _ _ => none), (fun _ _ _ => none))
  | d + 1 => (b_X12_partOf ((G_X12_partOf d).2.1), b_X12_sumOf ((G_X12_partOf d).2.2), b_X12_termOf ((G_X12_partOf d).1))
noncomputable def f_X12_partOf (d : Nat) : Mem → Nat → Int32 → Option (Mem × Int64) := (G_X12_partOf d).1
noncomputable def f_X12_sumOf (d : Nat) : Mem → Nat → Int32 → Option (Mem × Int64) := (G_X12_partOf d).2.1
noncomputable def f_X12_termOf (d : Nat) : Mem → Nat → Int32 → Option (Mem × Int64) := (G_X12_partOf d).2.2
set_option maxRecDepth 100000 in
theorem tg_X12_partOf {l : Launch} {G : Gh} : ∀ d : Nat, (∀ (M : Mem) (a0 : Nat) (p1 : Int32) (q : Mem × Int64), f_X12_partOf d M a0 p1 = some q → Ctr l G yX12_partOf (Y_X12_partOf d) M [.ref (gh G + a0), .int p1] q.1 (some (.long q.2))) ∧ (∀ (M : Mem) (a0 : Nat) (p1 : Int32) (q : Mem × Int64), f_X12_sumOf d M a0 p1 = some q → Ctr l G yX12_sumOf (Y_X12_sumOf d) M [.ref (gh G + a0), .int p1] q.1 (some (.long q.2))) ∧ (∀ (M : Mem) (a0 : Nat) (p1 : Int32) (q : Mem × Int64), f_X12_termOf d M a0 p1 = some q → Ctr l G yX12_termOf (Y_X12_termOf d) M [.ref (gh G + a0), .int p1] q.1 (some (.long q.2))) := by
  intro d
  induction d with
  | zero => refine ⟨?_, ?_, ?_⟩ <;> (intros; rename_i h; cases h)
  | succ d ih =>
    obtain ⟨h0, h1, h2⟩ := ih
    refine ⟨?_, ?_, ?_⟩
    · intro M a0 p1 q h
      exact t_X12_partOf (fun X hG hl => by subst hG; subst hl; exact h1) h
    · intro M a0 p1 q h
      exact t_X12_sumOf (fun X hG hl => by subst hG; subst hl; exact h2) h
    · intro M a0 p1 q h
      exact t_X12_termOf (fun X hG hl => by subst hG; subst hl; exact h0) h
set_option maxRecDepth 100000 in
theorem tf_X12_partOf {l : Launch} {G : Gh} {M : Mem} {a0 : Nat} {p1 : Int32} {q : Mem × Int64} (h : f_X12_partOf 100 M a0 p1 = some q) : Ctr l G yX12_partOf (Y_X12_partOf 100) M [.ref (gh G + a0), .int p1] q.1 (some (.long q.2)) := (tg_X12_partOf 100).1 _ _ _ _ h
set_option maxRecDepth 100000 in
theorem tf_X12_sumOf {l : Launch} {G : Gh} {M : Mem} {a0 : Nat} {p1 : Int32} {q : Mem × Int64} (h : f_X12_sumOf 100 M a0 p1 = some q) : Ctr l G yX12_sumOf (Y_X12_sumOf 100) M [.ref (gh G + a0), .int p1] q.1 (some (.long q.2)) := (tg_X12_partOf 100).2.1 _ _ _ _ h
set_option maxRecDepth 100000 in
theorem tf_X12_termOf {l : Launch} {G : Gh} {M : Mem} {a0 : Nat} {p1 : Int32} {q : Mem × Int64} (h : f_X12_termOf 100 M a0 p1 = some q) : Ctr l G yX12_termOf (Y_X12_termOf 100) M [.ref (gh G + a0), .int p1] q.1 (some (.long q.2)) := (tg_X12_partOf 100).2.2 _ _ _ _ h
