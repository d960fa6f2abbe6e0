noncomputable def f_X12_changes (M : Mem) (a0 : Nat) (x1 : Int32) (x2 : Int32) : Option (Mem × Int32) :=
  Option.bind (f_X12_isDish x1) (fun q1 => if q1 = 0 then (some (M, (-1))) else (grd (okO M 12 a0) (Option.bind (mR M a0 3) (fun r5 => grd (okO M 14 r5) (grd (vp_in 54 (mL M r5)) (Option.bind (f_X12_lists M a0 x1 (mI M r5 (54 : Int32).toNatClampNeg) 0) (fun q8 => if x2 = (-1) then (some (q8, mI q8 a0 11)) else (Option.bind (f_X12_lies x2 0 ((mI q8 a0 11) - 1)) (fun q13 => if q13 = 0 then (some (q8, (-1))) else (Option.bind (mR q8 a0 9) (fun r16 => grd (okO q8 14 r16) (grd (vp_in x2 (mL q8 r16)) (some (q8, mI q8 r16 x2.toNatClampNeg))))))))))))))
abbrev Y_X12_changes : Sta := (RX12, "changes", cX12_changes, 3, (some .int), 108)
set_option maxRecDepth 100000 in
set_option maxHeartbeats 8000000 in
theorem t_X12_changes {l : Launch} {G : Gh} {M : Mem} {a0 : Nat} {x1 : Int32} {x2 : Int32} {q : Mem × Int32} (h : f_X12_changes M a0 x1 x2 = some q) : Ctr l G yX12_changes Y_X12_changes M [.ref (gh G + a0), .int x1, .int x2] q.1 (some (.int q.2)) := by
  refine Ctr.of (Y := Y_X12_changes) (L := [some (.ref (gh G + a0)), some (.int x1), some (.int x2)]) (t := Option.bind (f_X12_changes M a0 x1 x2) (fun q => some (q.1, some (.int q.2)))) (by decide) rfl rfl (nle rfl) (Lof_in 0 _ rfl) (fun X hG hl => ?_) (by rw [h]; rfl)
  subst hG
  subst hl
  unfold f_X12_changes
  refine s_iload_n (pc := 0) 1 dX12_changes_0 rfl rfl ?_
  refine s_bind (fun q1 hq2 => ?_)
  have hC3 := t_X12_isDish (l := xl X) (G := xG X) (M := M) hq2
  refine s_callS (pc := 1) (As := [.int x1]) (st := []) cl_X12_isDish wt_X12_isDish km_X12_184 rfl rfl (nle rfl) (nle rfl) (nle rfl) dX12_changes_1 hC3 ?_
  show S0 X _ M 4 [some (.ref (gh (xG X) + a0)), some (.int x1), some (.int x2)] [.int q1] _
  refine s_ifne (pc := 4) 9 dX12_changes_4 rfl ?_ ?_
  · refine s_aload_n (pc := 9) 0 dX12_changes_9 rfl rfl ?_
    refine s_iload_n (pc := 10) 1 dX12_changes_10 rfl rfl ?_
    refine s_aload_n (pc := 11) 0 dX12_changes_11 rfl rfl ?_
    refine s_grd (fun o4 => ?_)
    refine s_geto (pc := 12) F_12 3 rfl o4 dX12_changes_12 kf_X12_20 ?_
    refine s_rvB (fun r5 => ?_)
    refine s_bipush (pc := 15) 54 dX12_changes_15 kb_54 ?_
    refine s_grd (fun o6 => ?_)
    refine s_grd (fun i7 => ?_)
    refine s_iald (pc := 17) o6 i7 dX12_changes_17 ?_
    refine s_iconst (pc := 18) 0 dX12_changes_18 kc_0 ?_
    refine s_bind (fun q8 hq9 => ?_)
    have hC10 := t_X12_lists (l := xl X) (G := xG X) hq9
    refine s_callV (pc := 19) (As := [.int x1, .int (mI M r5 (54 : Int32).toNatClampNeg), .int 0]) (st := []) (nlt rfl) (q := (RX12, TX12, 59)) rfl rfl o4 cl_X12_lists wi_X12_lists wl_X12_lists km_X12_187 rfl rfl (nle rfl) (nle rfl) (nle rfl) dX12_changes_19 hC10 ?_
    have h11 := hC10.1 X
    have o12 := h11.ok o4
    show S0 X _ q8 22 [some (.ref (gh (xG X) + a0)), some (.int x1), some (.int x2)] [] _
    refine s_iload_n (pc := 22) 2 dX12_changes_22 rfl rfl ?_
    refine s_iconst (pc := 23) (-1) dX12_changes_23 kc_m1 ?_
    refine s_icne (pc := 24) 34 dX12_changes_24 rfl ?_ ?_
    · refine s_iload_n (pc := 34) 2 dX12_changes_34 rfl rfl ?_
      refine s_iconst (pc := 35) 0 dX12_changes_35 kc_0 ?_
      refine s_aload_n (pc := 36) 0 dX12_changes_36 rfl rfl ?_
      refine s_geti (pc := 37) F_12 11 rfl o12 dX12_changes_37 kf_X12_174 ?_
      refine s_iconst (pc := 40) 1 dX12_changes_40 kc_1 ?_
      refine s_isub (pc := 41) dX12_changes_41 ?_
      refine s_bind (fun q13 hq14 => ?_)
      have hC15 := t_X12_lies (l := xl X) (G := xG X) (M := q8) hq14
      refine s_callS (pc := 42) (As := [.int x2, .int 0, .int ((mI q8 a0 11) - 1)]) (st := []) cl_X12_lies wt_X12_lies km_X12_123 rfl rfl (nle rfl) (nle rfl) (nle rfl) dX12_changes_42 hC15 ?_
      show S0 X _ q8 45 [some (.ref (gh (xG X) + a0)), some (.int x1), some (.int x2)] [.int q13] _
      refine s_ifeq (pc := 45) 57 dX12_changes_45 rfl ?_ ?_
      · refine s_iconst (pc := 57) (-1) dX12_changes_57 kc_m1 ?_
        exact s_iret rfl dX12_changes_58
      · refine s_aload_n (pc := 48) 0 dX12_changes_48 rfl rfl ?_
        refine s_geto (pc := 49) F_12 9 rfl o12 dX12_changes_49 kf_X12_33 ?_
        refine s_rvB (fun r16 => ?_)
        refine s_iload_n (pc := 52) 2 dX12_changes_52 rfl rfl ?_
        refine s_grd (fun o17 => ?_)
        refine s_grd (fun i18 => ?_)
        refine s_iald (pc := 53) o17 i18 dX12_changes_53 ?_
        refine s_goto (pc := 54) 58 dX12_changes_54 rfl ?_
        exact s_iret rfl dX12_changes_58
    · refine s_aload_n (pc := 27) 0 dX12_changes_27 rfl rfl ?_
      refine s_geti (pc := 28) F_12 11 rfl o12 dX12_changes_28 kf_X12_174 ?_
      refine s_goto (pc := 31) 58 dX12_changes_31 rfl ?_
      exact s_iret rfl dX12_changes_58
  · refine s_iconst (pc := 7) (-1) dX12_changes_7 kc_m1 ?_
    exact s_iret rfl dX12_changes_8
noncomputable def f_X12_laysNext (M : Mem) (a0 : Nat) : Option Mem :=
  grd (okO M 12 a0) (if (mI M a0 34) = (mI M a0 1) then (some M) else (bv (wI M a0 34 (mI M a0 1)) (fun M2 => Option.bind (loopO (σ := Mem × Int32) (ρ := Mem) (fun s6 => if 9331 ≤ s6.2 then (some (.inr s6.1)) else (Option.bind (f_X12_dishAt s6.2) (fun q15 => Option.bind (mR s6.1 a0 3) (fun r18 => grd (okO s6.1 14 r18) (grd (vp_in 54 (mL s6.1 r18)) (Option.bind (f_X12_lists s6.1 a0 q15 (mI s6.1 r18 (54 : Int32).toNatClampNeg) 0) (fun q21 => Option.bind (mR q21 a0 33) (fun r26 => grd (okO q21 14 r26) (grd (vp_in s6.2 (mL q21 r26)) (bv (wI q21 r26 s6.2.toNatClampNeg (mI q21 a0 11)) (fun M29 => Option.bind (loopO (σ := Mem × Int32) (ρ := Mem) (fun s33 => if (mI s33.1 a0 11) ≤ s33.2 then (some (.inr s33.1)) else (Option.bind (mR s33.1 a0 32) (fun r42 => Option.bind (mR s33.1 a0 9) (fun r43 => grd (okO s33.1 14 r43) (grd (vp_in s33.2 (mL s33.1 r43)) (Option.bind (f_X12_placeOf (mI s33.1 r43 s33.2.toNatClampNeg)) (fun q46 => grd (okO s33.1 14 r42) (grd (vp_in ((46 * s6.2) + s33.2) (mL s33.1 r42)) (bv (wI s33.1 r42 ((46 * s6.2) + s33.2).toNatClampNeg q46) (fun M51 => bv (s33.2 + 1 : Int32) (fun x55 => some (.inl (M51, x55))))))))))))) (M29, 0)) (fun (x40 : Mem) => bv (s6.2 + 1 : Int32) (fun x57 => some (.inl (x40, x57))))))))))))))) (M2, 0)) (fun (x13 : Mem) => some x13))))
abbrev Y_X12_laysNext : Sta := (RX12, "laysNext", cX12_laysNext, 3, none, 108)
set_option maxRecDepth 100000 in
set_option maxHeartbeats 8000000 in
theorem t_X12_laysNext {l : Launch} {G : Gh} {M : Mem} {a0 : Nat} {q : Mem} (h : f_X12_laysNext M a0 = some q) : Ctr l G yX12_laysNext Y_X12_laysNext M [.ref (gh G + a0)] q (none) := by
  refine Ctr.of (Y := Y_X12_laysNext) (L := [some (.ref (gh G + a0)), none, none]) (t := Option.bind (f_X12_laysNext M a0) (fun q => some (q, (none : Option Value)))) (by decide) rfl rfl (nle rfl) (Lof_in 2 _ rfl) (fun X hG hl => ?_) (by rw [h]; rfl)
  subst hG
  subst hl
  unfold f_X12_laysNext
  refine s_aload_n (pc := 0) 0 dX12_laysNext_0 rfl rfl ?_
  refine s_grd (fun o1 => ?_)
  refine s_geti (pc := 1) F_12 34 rfl o1 dX12_laysNext_1 kf_X12_74 ?_
  refine s_aload_n (pc := 4) 0 dX12_laysNext_4 rfl rfl ?_
  refine s_geti (pc := 5) F_12 1 rfl o1 dX12_laysNext_5 kf_X12_11 ?_
  refine s_icne (pc := 8) 12 dX12_laysNext_8 rfl ?_ ?_
  · refine s_aload_n (pc := 12) 0 dX12_laysNext_12 rfl rfl ?_
    refine s_aload_n (pc := 13) 0 dX12_laysNext_13 rfl rfl ?_
    refine s_geti (pc := 14) F_12 1 rfl o1 dX12_laysNext_14 kf_X12_11 ?_
    refine s_puti (pc := 17) F_12 34 rfl o1 rfl rfl rfl dX12_laysNext_17 kf_X12_74 (fun M2 hM3 => ?_)
    have h4 := le_wI hM3
    have o5 := h4.ok o1
    refine s_iconst (pc := 20) 0 dX12_laysNext_20 kc_0 ?_
    refine s_istore_n (pc := 21) 1 dX12_laysNext_21 rfl (nlt rfl) rfl (L' := [some (.ref (gh (xG X) + a0)), some (.int 0), none]) rfl ?_
    refine s_drop (L' := [some (.ref (gh (xG X) + a0)), some (.int 0), none]) ?_ (And.intro rfl (And.intro rfl trivial))
    refine s_loop1 M2 (fun s6 : Mem × Int32 => s6.1) (fun s6 : Mem × Int32 => [some (.ref (gh (xG X) + a0)), some (.int s6.2), none]) (fun x13 : Mem => x13) 97 (fun x13 : Mem => [none, none, none]) (fun x13 hx14 => ?_) (fun T8 R10 hT9 hR11 s6 hs7 => ?_) (M2, 0) Le.rf
    · show S0 X _ x13 97 [none, none, none] [] _
      exact s_vret rfl dX12_laysNext_97
    · show S0 X _ s6.1 22 [some (.ref (gh (xG X) + a0)), some (.int s6.2), none] [] _
      have o12 := hs7.ok o5
      refine s_iload_n (pc := 22) 1 dX12_laysNext_22 rfl rfl ?_
      refine s_sipush (pc := 23) 9331 dX12_laysNext_23 ks_9331 ?_
      refine s_icge (pc := 26) 97 dX12_laysNext_26 rfl ?_ ?_
      · exact s_drop (hR11 s6.1 hs7) trivial
      · refine s_aload_n (pc := 29) 0 dX12_laysNext_29 rfl rfl ?_
        refine s_iload_n (pc := 30) 1 dX12_laysNext_30 rfl rfl ?_
        refine s_bind (fun q15 hq16 => ?_)
        have hC17 := t_X12_dishAt (l := xl X) (G := xG X) (M := s6.1) hq16
        refine s_callS (pc := 31) (As := [.int s6.2]) (st := [.ref (gh (xG X) + a0)]) cl_X12_dishAt wt_X12_dishAt km_X12_359 rfl rfl (nle rfl) (nle rfl) (nle rfl) dX12_laysNext_31 hC17 ?_
        show S0 X _ s6.1 34 [some (.ref (gh (xG X) + a0)), some (.int s6.2), none] [.int q15, .ref (gh (xG X) + a0)] _
        refine s_aload_n (pc := 34) 0 dX12_laysNext_34 rfl rfl ?_
        refine s_geto (pc := 35) F_12 3 rfl o12 dX12_laysNext_35 kf_X12_20 ?_
        refine s_rvB (fun r18 => ?_)
        refine s_bipush (pc := 38) 54 dX12_laysNext_38 kb_54 ?_
        refine s_grd (fun o19 => ?_)
        refine s_grd (fun i20 => ?_)
        refine s_iald (pc := 40) o19 i20 dX12_laysNext_40 ?_
        refine s_iconst (pc := 41) 0 dX12_laysNext_41 kc_0 ?_
        refine s_bind (fun q21 hq22 => ?_)
        have hC23 := t_X12_lists (l := xl X) (G := xG X) hq22
        refine s_callV (pc := 42) (As := [.int q15, .int (mI s6.1 r18 (54 : Int32).toNatClampNeg), .int 0]) (st := []) (nlt rfl) (q := (RX12, TX12, 59)) rfl rfl o12 cl_X12_lists wi_X12_lists wl_X12_lists km_X12_187 rfl rfl (nle rfl) (nle rfl) (nle rfl) dX12_laysNext_42 hC23 ?_
        have h24 := hC23.1 X
        have o25 := h24.ok o12
        show S0 X _ q21 45 [some (.ref (gh (xG X) + a0)), some (.int s6.2), none] [] _
        refine s_aload_n (pc := 45) 0 dX12_laysNext_45 rfl rfl ?_
        refine s_geto (pc := 46) F_12 33 rfl o25 dX12_laysNext_46 kf_X12_71 ?_
        refine s_rvB (fun r26 => ?_)
        refine s_iload_n (pc := 49) 1 dX12_laysNext_49 rfl rfl ?_
        refine s_aload_n (pc := 50) 0 dX12_laysNext_50 rfl rfl ?_
        refine s_geti (pc := 51) F_12 11 rfl o25 dX12_laysNext_51 kf_X12_174 ?_
        refine s_grd (fun o27 => ?_)
        refine s_grd (fun i28 => ?_)
        refine s_iast (pc := 54) o27 i28 dX12_laysNext_54 (fun M29 hM30 => ?_)
        have h31 := le_wI hM30
        have o32 := h31.ok o25
        refine s_iconst (pc := 55) 0 dX12_laysNext_55 kc_0 ?_
        refine s_istore_n (pc := 56) 2 dX12_laysNext_56 rfl (nlt rfl) rfl (L' := [some (.ref (gh (xG X) + a0)), some (.int s6.2), some (.int 0)]) rfl ?_
        refine s_drop (L' := [some (.ref (gh (xG X) + a0)), some (.int s6.2), some (.int 0)]) ?_ (And.intro rfl (And.intro rfl (And.intro rfl trivial)))
        refine s_loop1 M29 (fun s33 : Mem × Int32 => s33.1) (fun s33 : Mem × Int32 => [some (.ref (gh (xG X) + a0)), some (.int s6.2), some (.int s33.2)]) (fun x40 : Mem => x40) 91 (fun x40 : Mem => [some (.ref (gh (xG X) + a0)), some (.int s6.2), none]) (fun x40 hx41 => ?_) (fun T35 R37 hT36 hR38 s33 hs34 => ?_) (M29, 0) Le.rf
        · show S0 X _ x40 91 [some (.ref (gh (xG X) + a0)), some (.int s6.2), none] [] _
          have o56 := hx41.ok o32
          refine s_iinc (pc := 91) dX12_laysNext_91 rfl (v := s6.2 + 1) (congrArg (fun z : Int32 => s6.2 + z) kc_1) (nlt rfl) rfl (L' := [some (.ref (gh (xG X) + a0)), some (.int (s6.2 + 1)), none]) rfl ?_
          refine s_bv (fun x57 : Int32 => [some (.ref (gh (xG X) + a0)), some (.int x57), none]) (fun x57 => ?_) rfl
          refine s_goto (pc := 94) 22 dX12_laysNext_94 rfl ?_
          exact s_drop (hT9 (x40, x57) (hs7.tr (h24.tr (h31.tr hx41)))) (And.intro rfl (And.intro rfl trivial))
        · show S0 X _ s33.1 57 [some (.ref (gh (xG X) + a0)), some (.int s6.2), some (.int s33.2)] [] _
          have o39 := hs34.ok o32
          refine s_iload_n (pc := 57) 2 dX12_laysNext_57 rfl rfl ?_
          refine s_aload_n (pc := 58) 0 dX12_laysNext_58 rfl rfl ?_
          refine s_geti (pc := 59) F_12 11 rfl o39 dX12_laysNext_59 kf_X12_174 ?_
          refine s_icge (pc := 62) 91 dX12_laysNext_62 rfl ?_ ?_
          · exact s_drop (hR38 s33.1 hs34) (And.intro rfl (And.intro rfl trivial))
          · refine s_aload_n (pc := 65) 0 dX12_laysNext_65 rfl rfl ?_
            refine s_geto (pc := 66) F_12 32 rfl o39 dX12_laysNext_66 kf_X12_68 ?_
            refine s_rvB (fun r42 => ?_)
            refine s_bipush (pc := 69) 46 dX12_laysNext_69 kb_46 ?_
            refine s_iload_n (pc := 71) 1 dX12_laysNext_71 rfl rfl ?_
            refine s_imul (pc := 72) dX12_laysNext_72 ?_
            refine s_iload_n (pc := 73) 2 dX12_laysNext_73 rfl rfl ?_
            refine s_iadd (pc := 74) dX12_laysNext_74 ?_
            refine s_aload_n (pc := 75) 0 dX12_laysNext_75 rfl rfl ?_
            refine s_geto (pc := 76) F_12 9 rfl o39 dX12_laysNext_76 kf_X12_33 ?_
            refine s_rvB (fun r43 => ?_)
            refine s_iload_n (pc := 79) 2 dX12_laysNext_79 rfl rfl ?_
            refine s_grd (fun o44 => ?_)
            refine s_grd (fun i45 => ?_)
            refine s_iald (pc := 80) o44 i45 dX12_laysNext_80 ?_
            refine s_bind (fun q46 hq47 => ?_)
            have hC48 := t_X12_placeOf (l := xl X) (G := xG X) (M := s33.1) hq47
            refine s_callS (pc := 81) (As := [.int (mI s33.1 r43 s33.2.toNatClampNeg)]) (st := [.int ((46 * s6.2) + s33.2), .ref (gh (xG X) + r42)]) cl_X12_placeOf wt_X12_placeOf km_X12_362 rfl rfl (nle rfl) (nle rfl) (nle rfl) dX12_laysNext_81 hC48 ?_
            show S0 X _ s33.1 84 [some (.ref (gh (xG X) + a0)), some (.int s6.2), some (.int s33.2)] [.int q46, .int ((46 * s6.2) + s33.2), .ref (gh (xG X) + r42)] _
            refine s_grd (fun o49 => ?_)
            refine s_grd (fun i50 => ?_)
            refine s_iast (pc := 84) o49 i50 dX12_laysNext_84 (fun M51 hM52 => ?_)
            have h53 := le_wI hM52
            have o54 := h53.ok o39
            refine s_iinc (pc := 85) dX12_laysNext_85 rfl (v := s33.2 + 1) (congrArg (fun z : Int32 => s33.2 + z) kc_1) (nlt rfl) rfl (L' := [some (.ref (gh (xG X) + a0)), some (.int s6.2), some (.int (s33.2 + 1))]) rfl ?_
            refine s_bv (fun x55 : Int32 => [some (.ref (gh (xG X) + a0)), some (.int s6.2), some (.int x55)]) (fun x55 => ?_) rfl
            refine s_goto (pc := 88) 57 dX12_laysNext_88 rfl ?_
            exact s_drop (hT36 (M51, x55) (hs34.tr h53)) (And.intro rfl (And.intro rfl (And.intro rfl trivial)))
  · exact s_vret rfl dX12_laysNext_11
noncomputable def f_X12_leadsTo (M : Mem) (a0 : Nat) (x1 : Int32) (x2 : Int32) (x3 : Int32) : Option (Mem × Int32) :=
  grd (okO M 12 a0) (Option.bind (f_X12_lists M a0 x1 x3 0) (fun q2 => Option.bind (loopO (σ := Int32) (ρ := Unit ⊕ Unit) (fun s7 => if (mI q2 a0 11) ≤ s7 then (some (.inr (.inl ()))) else (Option.bind (mR q2 a0 9) (fun r19 => grd (okO q2 14 r19) (grd (vp_in s7 (mL q2 r19)) (if (mI q2 r19 s7.toNatClampNeg) = x2 then (some (.inr (.inr ()))) else (bv (s7 + 1 : Int32) (fun x22 => some (.inl x22)))))))) 0) (Sum.elim (fun (x15 : Unit) => some (q2, 0)) (fun (x17 : Unit) => some (q2, 1)))))
abbrev Y_X12_leadsTo : Sta := (RX12, "leadsTo", cX12_leadsTo, 5, (some .boolean), 108)
set_option maxRecDepth 100000 in
set_option maxHeartbeats 8000000 in
theorem t_X12_leadsTo {l : Launch} {G : Gh} {M : Mem} {a0 : Nat} {x1 : Int32} {x2 : Int32} {x3 : Int32} {q : Mem × Int32} (h : f_X12_leadsTo M a0 x1 x2 x3 = some q) : Ctr l G yX12_leadsTo Y_X12_leadsTo M [.ref (gh G + a0), .int x1, .int x2, .int x3] q.1 (some (.int q.2)) := by
  refine Ctr.of (Y := Y_X12_leadsTo) (L := [some (.ref (gh G + a0)), some (.int x1), some (.int x2), some (.int x3), none]) (t := Option.bind (f_X12_leadsTo M a0 x1 x2 x3) (fun q => some (q.1, some (.int q.2)))) (by decide) rfl rfl (nle rfl) (Lof_in 1 _ rfl) (fun X hG hl => ?_) (by rw [h]; rfl)
  subst hG
  subst hl
  unfold f_X12_leadsTo
  refine s_aload_n (pc := 0) 0 dX12_leadsTo_0 rfl rfl ?_
  refine s_iload_n (pc := 1) 1 dX12_leadsTo_1 rfl rfl ?_
  refine s_iload_n (pc := 2) 3 dX12_leadsTo_2 rfl rfl ?_
  refine s_iconst (pc := 3) 0 dX12_leadsTo_3 kc_0 ?_
  refine s_grd (fun o1 => ?_)
  refine s_bind (fun q2 hq3 => ?_)
  have hC4 := t_X12_lists (l := xl X) (G := xG X) hq3
  refine s_callV (pc := 4) (As := [.int x1, .int x3, .int 0]) (st := []) (nlt rfl) (q := (RX12, TX12, 59)) rfl rfl o1 cl_X12_lists wi_X12_lists wl_X12_lists km_X12_187 rfl rfl (nle rfl) (nle rfl) (nle rfl) dX12_leadsTo_4 hC4 ?_
  have h5 := hC4.1 X
  have o6 := h5.ok o1
  show S0 X _ q2 7 [some (.ref (gh (xG X) + a0)), some (.int x1), some (.int x2), some (.int x3), none] [] _
  refine s_iconst (pc := 7) 0 dX12_leadsTo_7 kc_0 ?_
  refine s_istore (pc := 8) dX12_leadsTo_8 (nlt rfl) rfl (L' := [some (.ref (gh (xG X) + a0)), some (.int x1), some (.int x2), some (.int x3), some (.int 0)]) rfl ?_
  refine s_drop (L' := [some (.ref (gh (xG X) + a0)), none, some (.int x2), none, some (.int 0)]) ?_ (And.intro rfl (And.intro rfl (And.intro rfl trivial)))
  refine s_loop2 q2 (fun s7 : Int32 => q2) (fun s7 : Int32 => [some (.ref (gh (xG X) + a0)), none, some (.int x2), none, some (.int s7)]) (fun x15 : Unit => q2) 38 (fun x15 : Unit => [none, none, none, none, none]) (fun x17 : Unit => q2) 30 (fun x17 : Unit => [none, none, none, none, none]) (fun x15 hx16 => ?_) (fun x17 hx18 => ?_) (fun T9 R11 R13 hT10 hR12 hR14 s7 hs8 => ?_) 0 Le.rf
  · show S0 X _ q2 38 [none, none, none, none, none] [] _
    refine s_iconst (pc := 38) 0 dX12_leadsTo_38 kc_0 ?_
    exact s_zret rfl rfl dX12_leadsTo_39
  · show S0 X _ q2 30 [none, none, none, none, none] [] _
    refine s_iconst (pc := 30) 1 dX12_leadsTo_30 kc_1 ?_
    exact s_zret rfl rfl dX12_leadsTo_31
  · show S0 X _ q2 10 [some (.ref (gh (xG X) + a0)), none, some (.int x2), none, some (.int s7)] [] _
    refine s_iload (pc := 10) dX12_leadsTo_10 rfl ?_
    refine s_aload_n (pc := 12) 0 dX12_leadsTo_12 rfl rfl ?_
    refine s_geti (pc := 13) F_12 11 rfl o6 dX12_leadsTo_13 kf_X12_174 ?_
    refine s_icge (pc := 16) 38 dX12_leadsTo_16 rfl ?_ ?_
    · exact s_drop (hR12 () Le.rf) trivial
    · refine s_aload_n (pc := 19) 0 dX12_leadsTo_19 rfl rfl ?_
      refine s_geto (pc := 20) F_12 9 rfl o6 dX12_leadsTo_20 kf_X12_33 ?_
      refine s_rvB (fun r19 => ?_)
      refine s_iload (pc := 23) dX12_leadsTo_23 rfl ?_
      refine s_grd (fun o20 => ?_)
      refine s_grd (fun i21 => ?_)
      refine s_iald (pc := 25) o20 i21 dX12_leadsTo_25 ?_
      refine s_iload_n (pc := 26) 2 dX12_leadsTo_26 rfl rfl ?_
      refine s_icne (pc := 27) 32 dX12_leadsTo_27 rfl ?_ ?_
      · refine s_iinc (pc := 32) dX12_leadsTo_32 rfl (v := s7 + 1) (congrArg (fun z : Int32 => s7 + z) kc_1) (nlt rfl) rfl (L' := [some (.ref (gh (xG X) + a0)), none, some (.int x2), none, some (.int (s7 + 1))]) rfl ?_
        refine s_bv (fun x22 : Int32 => [some (.ref (gh (xG X) + a0)), none, some (.int x2), none, some (.int x22)]) (fun x22 => ?_) rfl
        refine s_goto (pc := 35) 10 dX12_leadsTo_35 rfl ?_
        exact s_drop (hT10 x22 Le.rf) (And.intro rfl (And.intro rfl (And.intro rfl trivial)))
      · exact s_drop (hR14 () Le.rf) trivial
noncomputable def f_X12_line (M : Mem) (a0 : Nat) (x1 : Int32) (x2 : Int32) (x3 : Int32) : Option (Mem × Int32) :=
  Option.bind (f_X12_lies x1 0 1000000) (fun q1 => bv (fun (s5 : Unit) => grd (okO M 12 a0) (Option.bind (f_X12_refuses M a0 (-1)) (fun q9 => some (q9.1, q9.2)))) (fun j4 => if q1 = 0 then (j4 ()) else (Option.bind (f_X12_lies x3 1 60) (fun q14 => if q14 = 0 then (j4 ()) else (grd (okO M 12 a0) (Option.bind (f_X12_isHouse M a0 x2) (fun q18 => if q18 = 0 then (Option.bind (f_X12_refuses M a0 (-2)) (fun q135 => some (q135.1, q135.2))) else (bv (wI M a0 58 x1) (fun M21 => bv (wI M21 a0 57 x3) (fun M25 => Option.bind (mR M25 a0 56) (fun r29 => Option.bind (f_X12_fact M25 a0 x2 2) (fun q30 => grd (okO M25 14 r29) (grd (vp_in 0 (mL M25 r29)) (bv (wI M25 r29 (0 : Int32).toNatClampNeg q30) (fun M35 => Option.bind (loopO (σ := Mem × Int32) (ρ := Mem) (fun s39 => if x3 ≤ s39.2 then (some (.inr s39.1)) else (Option.bind (mR s39.1 a0 3) (fun r48 => grd (okO s39.1 14 r48) (grd (vp_in 54 (mL s39.1 r48)) (bv (fun (s52 : Int32) => Option.bind (mR s39.1 a0 56) (fun r55 => grd (okO s39.1 14 r55) (grd (vp_in s39.2 (mL s39.1 r55)) (Option.bind (f_X12_lists s39.1 a0 (mI s39.1 r55 s39.2.toNatClampNeg) s52 1) (fun q58 => Option.bind (loopO (σ := Int32 × Int32) (ρ := Int32) (fun s63 => if (mI q58 a0 11) ≤ s63.2 then (some (.inr s63.1)) else (Option.bind (mR q58 a0 10) (fun r71 => grd (okO q58 14 r71) (grd (vp_in s63.2 (mL q58 r71)) (bv (s63.1 + (mI q58 r71 s63.2.toNatClampNeg) : Int32) (fun x74 => bv (s63.2 + 1 : Int32) (fun x75 => some (.inl (x74, x75))))))))) (0, 0)) (fun (x69 : Int32) => Option.bind (mR q58 a0 56) (fun r76 => Option.bind (mR q58 a0 56) (fun r77 => grd (okO q58 14 r77) (grd (vp_in s39.2 (mL q58 r77)) (grd (okO q58 14 r76) (grd (vp_in (s39.2 + 1) (mL q58 r76)) (bv (wI q58 r76 (s39.2 + 1).toNatClampNeg (mI q58 r77 s39.2.toNatClampNeg)) (fun M82 => bv (fun (s87 : Mem) => bv (s39.2 + 1 : Int32) (fun x91 => some (.inl (s87, x91)))) (fun j86 => if x69 = 0 then (j86 M82) else (Option.bind (f_X12_draws M82 a0 x69) (fun q92 => Option.bind (loopO (σ := Int32 × Int32) (ρ := Int32) (fun s97 => Option.bind (mR q92.1 a0 10) (fun r105 => grd (okO q92.1 14 r105) (grd (vp_in s97.2 (mL q92.1 r105)) (if s97.1 < (mI q92.1 r105 s97.2.toNatClampNeg) then (some (.inr s97.2)) else (Option.bind (mR q92.1 a0 10) (fun r108 => grd (okO q92.1 14 r108) (grd (vp_in s97.2 (mL q92.1 r108)) (bv (s97.1 - (mI q92.1 r108 s97.2.toNatClampNeg) : Int32) (fun x111 => bv (s97.2 + 1 : Int32) (fun x112 => some (.inl (x111, x112)))))))))))) (q92.2, 0)) (fun (x103 : Int32) => Option.bind (mR q92.1 a0 56) (fun r113 => Option.bind (mR q92.1 a0 9) (fun r114 => grd (okO q92.1 14 r114) (grd (vp_in x103 (mL q92.1 r114)) (grd (okO q92.1 14 r113) (grd (vp_in (s39.2 + 1) (mL q92.1 r113)) (bv (wI q92.1 r113 (s39.2 + 1).toNatClampNeg (mI q92.1 r114 x103.toNatClampNeg)) (fun M119 => j86 M119)))))))))))))))))))))))) (fun j51 => if ((mI s39.1 r48 (54 : Int32).toNatClampNeg) + s39.2) ≤ 999 then (Option.bind (mR s39.1 a0 3) (fun r123 => grd (okO s39.1 14 r123) (grd (vp_in 54 (mL s39.1 r123)) (j51 ((mI s39.1 r123 (54 : Int32).toNatClampNeg) + s39.2))))) else (j51 999))))))) (M35, 0)) (fun (x46 : Mem) => Option.bind (mR x46 a0 56) (fun r127 => grd (okO x46 14 r127) (grd (vp_in x3 (mL x46 r127)) (Option.bind (f_X12_good x46 a0 (mI x46 r127 x3.toNatClampNeg)) (fun q130 => some (q130.1, q130.2)))))))))))))))))))))
abbrev Y_X12_line : Sta := (RX12, "line", cX12_line, 9, (some .int), 108)
set_option maxRecDepth 100000 in
set_option maxHeartbeats 8000000 in
theorem t_X12_line {l : Launch} {G : Gh} {M : Mem} {a0 : Nat} {x1 : Int32} {x2 : Int32} {x3 : Int32} {q : Mem × Int32} (h : f_X12_line M a0 x1 x2 x3 = some q) : Ctr l G yX12_line Y_X12_line M [.ref (gh G + a0), .int x1, .int x2, .int x3] q.1 (some (.int q.2)) := by
  refine Ctr.of (Y := Y_X12_line) (L := [some (.ref (gh G + a0)), some (.int x1), some (.int x2), some (.int x3), none, none, none, none, none]) (t := Option.bind (f_X12_line M a0 x1 x2 x3) (fun q => some (q.1, some (.int q.2)))) (by decide) rfl rfl (nle rfl) (Lof_in 5 _ rfl) (fun X hG hl => ?_) (by rw [h]; rfl)
  subst hG
  subst hl
  unfold f_X12_line
  refine s_iload_n (pc := 0) 1 dX12_line_0 rfl rfl ?_
  refine s_iconst (pc := 1) 0 dX12_line_1 kc_0 ?_
  refine s_ldc (pc := 2) dX12_line_2 ki_X12_229 ?_
  refine s_bind (fun q1 hq2 => ?_)
  have hC3 := t_X12_lies (l := xl X) (G := xG X) (M := M) hq2
  refine s_callS (pc := 4) (As := [.int x1, .int 0, .int 1000000]) (st := []) cl_X12_lies wt_X12_lies km_X12_123 rfl rfl (nle rfl) (nle rfl) (nle rfl) dX12_line_4 hC3 ?_
  show S0 X _ M 7 [some (.ref (gh (xG X) + a0)), some (.int x1), some (.int x2), some (.int x3), none, none, none, none, none] [.int q1] _
  refine s_join M (fun s5 : Unit => M) 20 (fun s5 : Unit => [some (.ref (gh (xG X) + a0)), none, none, none, none, none, none, none, none]) (fun s5 : Unit => []) (fun s5 hs6 => ?_) (fun j4 hj7 => ?_)
  · show S0 X _ M 20 [some (.ref (gh (xG X) + a0)), none, none, none, none, none, none, none, none] [] _
    refine s_aload_n (pc := 20) 0 dX12_line_20 rfl rfl ?_
    refine s_iconst (pc := 21) (-1) dX12_line_21 kc_m1 ?_
    refine s_grd (fun o8 => ?_)
    refine s_bind (fun q9 hq10 => ?_)
    have hC11 := t_X12_refuses (l := xl X) (G := xG X) hq10
    refine s_callV (pc := 22) (As := [.int (-1)]) (st := []) (nlt rfl) (q := (RX12, TX12, 59)) rfl rfl o8 cl_X12_refuses wi_X12_refuses wl_X12_refuses km_X12_127 rfl rfl (nle rfl) (nle rfl) (nle rfl) dX12_line_22 hC11 ?_
    have h12 := hC11.1 X
    have o13 := h12.ok o8
    show S0 X _ q9.1 25 [some (.ref (gh (xG X) + a0)), none, none, none, none, none, none, none, none] [.int q9.2] _
    exact s_iret rfl dX12_line_25
  · refine s_ifeq (pc := 7) 20 dX12_line_7 rfl ?_ ?_
    · exact s_drop (hj7 () Le.rf) (And.intro rfl trivial)
    · refine s_iload_n (pc := 10) 3 dX12_line_10 rfl rfl ?_
      refine s_iconst (pc := 11) 1 dX12_line_11 kc_1 ?_
      refine s_bipush (pc := 12) 60 dX12_line_12 kb_60 ?_
      refine s_bind (fun q14 hq15 => ?_)
      have hC16 := t_X12_lies (l := xl X) (G := xG X) (M := M) hq15
      refine s_callS (pc := 14) (As := [.int x3, .int 1, .int 60]) (st := []) cl_X12_lies wt_X12_lies km_X12_123 rfl rfl (nle rfl) (nle rfl) (nle rfl) dX12_line_14 hC16 ?_
      show S0 X _ M 17 [some (.ref (gh (xG X) + a0)), some (.int x1), some (.int x2), some (.int x3), none, none, none, none, none] [.int q14] _
      refine s_ifne (pc := 17) 26 dX12_line_17 rfl ?_ ?_
      · refine s_aload_n (pc := 26) 0 dX12_line_26 rfl rfl ?_
        refine s_iload_n (pc := 27) 2 dX12_line_27 rfl rfl ?_
        refine s_grd (fun o17 => ?_)
        refine s_bind (fun q18 hq19 => ?_)
        have hC20 := t_X12_isHouse (l := xl X) (G := xG X) hq19
        refine s_callV (pc := 28) (As := [.int x2]) (st := []) (nlt rfl) (q := (RX12, TX12, 59)) rfl rfl o17 cl_X12_isHouse wi_X12_isHouse wl_X12_isHouse km_X12_191 rfl rfl (nle rfl) (nle rfl) (nle rfl) dX12_line_28 hC20 ?_
        show S0 X _ M 31 [some (.ref (gh (xG X) + a0)), some (.int x1), some (.int x2), some (.int x3), none, none, none, none, none] [.int q18] _
        refine s_ifne (pc := 31) 41 dX12_line_31 rfl ?_ ?_
        · refine s_aload_n (pc := 41) 0 dX12_line_41 rfl rfl ?_
          refine s_iload_n (pc := 42) 1 dX12_line_42 rfl rfl ?_
          refine s_puti (pc := 43) F_12 58 rfl o17 rfl rfl rfl dX12_line_43 kf_X12_464 (fun M21 hM22 => ?_)
          have h23 := le_wI hM22
          have o24 := h23.ok o17
          refine s_aload_n (pc := 46) 0 dX12_line_46 rfl rfl ?_
          refine s_iload_n (pc := 47) 3 dX12_line_47 rfl rfl ?_
          refine s_puti (pc := 48) F_12 57 rfl o24 rfl rfl rfl dX12_line_48 kf_X12_120 (fun M25 hM26 => ?_)
          have h27 := le_wI hM26
          have o28 := h27.ok o24
          refine s_aload_n (pc := 51) 0 dX12_line_51 rfl rfl ?_
          refine s_geto (pc := 52) F_12 56 rfl o28 dX12_line_52 kf_X12_117 ?_
          refine s_rvB (fun r29 => ?_)
          refine s_iconst (pc := 55) 0 dX12_line_55 kc_0 ?_
          refine s_aload_n (pc := 56) 0 dX12_line_56 rfl rfl ?_
          refine s_iload_n (pc := 57) 2 dX12_line_57 rfl rfl ?_
          refine s_iconst (pc := 58) 2 dX12_line_58 kc_2 ?_
          refine s_bind (fun q30 hq31 => ?_)
          have hC32 := t_X12_fact (l := xl X) (G := xG X) hq31
          refine s_callV (pc := 59) (As := [.int x2, .int 2]) (st := [.int 0, .ref (gh (xG X) + r29)]) (nlt rfl) (q := (RX12, TX12, 59)) rfl rfl o28 cl_X12_fact wi_X12_fact wl_X12_fact km_X12_194 rfl rfl (nle rfl) (nle rfl) (nle rfl) dX12_line_59 hC32 ?_
          show S0 X _ M25 62 [some (.ref (gh (xG X) + a0)), some (.int x1), some (.int x2), some (.int x3), none, none, none, none, none] [.int q30, .int 0, .ref (gh (xG X) + r29)] _
          refine s_grd (fun o33 => ?_)
          refine s_grd (fun i34 => ?_)
          refine s_iast (pc := 62) o33 i34 dX12_line_62 (fun M35 hM36 => ?_)
          have h37 := le_wI hM36
          have o38 := h37.ok o28
          refine s_iconst (pc := 63) 0 dX12_line_63 kc_0 ?_
          refine s_istore (pc := 64) dX12_line_64 (nlt rfl) rfl (L' := [some (.ref (gh (xG X) + a0)), some (.int x1), some (.int x2), some (.int x3), some (.int 0), none, none, none, none]) rfl ?_
          refine s_drop (L' := [some (.ref (gh (xG X) + a0)), none, none, some (.int x3), some (.int 0), none, none, none, none]) ?_ (And.intro rfl (And.intro rfl (And.intro rfl trivial)))
          refine s_loop1 M35 (fun s39 : Mem × Int32 => s39.1) (fun s39 : Mem × Int32 => [some (.ref (gh (xG X) + a0)), none, none, some (.int x3), some (.int s39.2), none, none, none, none]) (fun x46 : Mem => x46) 240 (fun x46 : Mem => [some (.ref (gh (xG X) + a0)), none, none, some (.int x3), none, none, none, none, none]) (fun x46 hx47 => ?_) (fun T41 R43 hT42 hR44 s39 hs40 => ?_) (M35, 0) Le.rf
          · show S0 X _ x46 240 [some (.ref (gh (xG X) + a0)), none, none, some (.int x3), none, none, none, none, none] [] _
            have o126 := hx47.ok o38
            refine s_aload_n (pc := 240) 0 dX12_line_240 rfl rfl ?_
            refine s_aload_n (pc := 241) 0 dX12_line_241 rfl rfl ?_
            refine s_geto (pc := 242) F_12 56 rfl o126 dX12_line_242 kf_X12_117 ?_
            refine s_rvB (fun r127 => ?_)
            refine s_iload_n (pc := 245) 3 dX12_line_245 rfl rfl ?_
            refine s_grd (fun o128 => ?_)
            refine s_grd (fun i129 => ?_)
            refine s_iald (pc := 246) o128 i129 dX12_line_246 ?_
            refine s_bind (fun q130 hq131 => ?_)
            have hC132 := t_X12_good (l := xl X) (G := xG X) hq131
            refine s_callV (pc := 247) (As := [.int (mI x46 r127 x3.toNatClampNeg)]) (st := []) (nlt rfl) (q := (RX12, TX12, 59)) rfl rfl o126 cl_X12_good wi_X12_good wl_X12_good km_X12_131 rfl rfl (nle rfl) (nle rfl) (nle rfl) dX12_line_247 hC132 ?_
            have h133 := hC132.1 X
            have o134 := h133.ok o126
            show S0 X _ q130.1 250 [some (.ref (gh (xG X) + a0)), none, none, some (.int x3), none, none, none, none, none] [.int q130.2] _
            exact s_iret rfl dX12_line_250
          · show S0 X _ s39.1 66 [some (.ref (gh (xG X) + a0)), none, none, some (.int x3), some (.int s39.2), none, none, none, none] [] _
            have o45 := hs40.ok o38
            refine s_iload (pc := 66) dX12_line_66 rfl ?_
            refine s_iload_n (pc := 68) 3 dX12_line_68 rfl rfl ?_
            refine s_icge (pc := 69) 240 dX12_line_69 rfl ?_ ?_
            · exact s_drop (hR44 s39.1 hs40) (And.intro rfl (And.intro rfl trivial))
            · refine s_aload_n (pc := 72) 0 dX12_line_72 rfl rfl ?_
              refine s_geto (pc := 73) F_12 3 rfl o45 dX12_line_73 kf_X12_20 ?_
              refine s_rvB (fun r48 => ?_)
              refine s_bipush (pc := 76) 54 dX12_line_76 kb_54 ?_
              refine s_grd (fun o49 => ?_)
              refine s_grd (fun i50 => ?_)
              refine s_iald (pc := 78) o49 i50 dX12_line_78 ?_
              refine s_iload (pc := 79) dX12_line_79 rfl ?_
              refine s_iadd (pc := 81) dX12_line_81 ?_
              refine s_sipush (pc := 82) 999 dX12_line_82 ks_999 ?_
              refine s_join s39.1 (fun s52 : Int32 => s39.1) 104 (fun s52 : Int32 => [some (.ref (gh (xG X) + a0)), none, none, some (.int x3), some (.int s39.2), none, none, none, none]) (fun s52 : Int32 => [.int s52]) (fun s52 hs53 => ?_) (fun j51 hj54 => ?_)
              · show S0 X _ s39.1 104 [some (.ref (gh (xG X) + a0)), none, none, some (.int x3), some (.int s39.2), none, none, none, none] [.int s52] _
                refine s_istore (pc := 104) dX12_line_104 (nlt rfl) rfl (L' := [some (.ref (gh (xG X) + a0)), none, none, some (.int x3), some (.int s39.2), some (.int s52), none, none, none]) rfl ?_
                refine s_aload_n (pc := 106) 0 dX12_line_106 rfl rfl ?_
                refine s_aload_n (pc := 107) 0 dX12_line_107 rfl rfl ?_
                refine s_geto (pc := 108) F_12 56 rfl o45 dX12_line_108 kf_X12_117 ?_
                refine s_rvB (fun r55 => ?_)
                refine s_iload (pc := 111) dX12_line_111 rfl ?_
                refine s_grd (fun o56 => ?_)
                refine s_grd (fun i57 => ?_)
                refine s_iald (pc := 113) o56 i57 dX12_line_113 ?_
                refine s_iload (pc := 114) dX12_line_114 rfl ?_
                refine s_iconst (pc := 116) 1 dX12_line_116 kc_1 ?_
                refine s_bind (fun q58 hq59 => ?_)
                have hC60 := t_X12_lists (l := xl X) (G := xG X) hq59
                refine s_callV (pc := 117) (As := [.int (mI s39.1 r55 s39.2.toNatClampNeg), .int s52, .int 1]) (st := []) (nlt rfl) (q := (RX12, TX12, 59)) rfl rfl o45 cl_X12_lists wi_X12_lists wl_X12_lists km_X12_187 rfl rfl (nle rfl) (nle rfl) (nle rfl) dX12_line_117 hC60 ?_
                have h61 := hC60.1 X
                have o62 := h61.ok o45
                show S0 X _ q58 120 [some (.ref (gh (xG X) + a0)), none, none, some (.int x3), some (.int s39.2), some (.int s52), none, none, none] [] _
                refine s_iconst (pc := 120) 0 dX12_line_120 kc_0 ?_
                refine s_istore (pc := 121) dX12_line_121 (nlt rfl) rfl (L' := [some (.ref (gh (xG X) + a0)), none, none, some (.int x3), some (.int s39.2), some (.int s52), some (.int 0), none, none]) rfl ?_
                refine s_iconst (pc := 123) 0 dX12_line_123 kc_0 ?_
                refine s_istore (pc := 124) dX12_line_124 (nlt rfl) rfl (L' := [some (.ref (gh (xG X) + a0)), none, none, some (.int x3), some (.int s39.2), some (.int s52), some (.int 0), some (.int 0), none]) rfl ?_
                refine s_drop (L' := [some (.ref (gh (xG X) + a0)), none, none, some (.int x3), some (.int s39.2), none, some (.int 0), some (.int 0), none]) ?_ (And.intro rfl (And.intro rfl (And.intro rfl (And.intro rfl (And.intro rfl trivial)))))
                refine s_loop1 q58 (fun s63 : Int32 × Int32 => q58) (fun s63 : Int32 × Int32 => [some (.ref (gh (xG X) + a0)), none, none, some (.int x3), some (.int s39.2), none, some (.int s63.1), some (.int s63.2), none]) (fun x69 : Int32 => q58) 153 (fun x69 : Int32 => [some (.ref (gh (xG X) + a0)), none, none, some (.int x3), some (.int s39.2), none, some (.int x69), none, none]) (fun x69 hx70 => ?_) (fun T65 R67 hT66 hR68 s63 hs64 => ?_) (0, 0) Le.rf
                · show S0 X _ q58 153 [some (.ref (gh (xG X) + a0)), none, none, some (.int x3), some (.int s39.2), none, some (.int x69), none, none] [] _
                  refine s_aload_n (pc := 153) 0 dX12_line_153 rfl rfl ?_
                  refine s_geto (pc := 154) F_12 56 rfl o62 dX12_line_154 kf_X12_117 ?_
                  refine s_rvB (fun r76 => ?_)
                  refine s_iload (pc := 157) dX12_line_157 rfl ?_
                  refine s_iconst (pc := 159) 1 dX12_line_159 kc_1 ?_
                  refine s_iadd (pc := 160) dX12_line_160 ?_
                  refine s_aload_n (pc := 161) 0 dX12_line_161 rfl rfl ?_
                  refine s_geto (pc := 162) F_12 56 rfl o62 dX12_line_162 kf_X12_117 ?_
                  refine s_rvB (fun r77 => ?_)
                  refine s_iload (pc := 165) dX12_line_165 rfl ?_
                  refine s_grd (fun o78 => ?_)
                  refine s_grd (fun i79 => ?_)
                  refine s_iald (pc := 167) o78 i79 dX12_line_167 ?_
                  refine s_grd (fun o80 => ?_)
                  refine s_grd (fun i81 => ?_)
                  refine s_iast (pc := 168) o80 i81 dX12_line_168 (fun M82 hM83 => ?_)
                  have h84 := le_wI hM83
                  have o85 := h84.ok o62
                  refine s_iload (pc := 169) dX12_line_169 rfl ?_
                  refine s_join M82 (fun s87 : Mem => s87) 234 (fun s87 : Mem => [some (.ref (gh (xG X) + a0)), none, none, some (.int x3), some (.int s39.2), none, none, none, none]) (fun s87 : Mem => []) (fun s87 hs88 => ?_) (fun j86 hj89 => ?_)
                  · show S0 X _ s87 234 [some (.ref (gh (xG X) + a0)), none, none, some (.int x3), some (.int s39.2), none, none, none, none] [] _
                    have o90 := hs88.ok o85
                    refine s_iinc (pc := 234) dX12_line_234 rfl (v := s39.2 + 1) (congrArg (fun z : Int32 => s39.2 + z) kc_1) (nlt rfl) rfl (L' := [some (.ref (gh (xG X) + a0)), none, none, some (.int x3), some (.int (s39.2 + 1)), none, none, none, none]) rfl ?_
                    refine s_bv (fun x91 : Int32 => [some (.ref (gh (xG X) + a0)), none, none, some (.int x3), some (.int x91), none, none, none, none]) (fun x91 => ?_) rfl
                    refine s_goto (pc := 237) 66 dX12_line_237 rfl ?_
                    exact s_drop (hT42 (s87, x91) (hs40.tr (h61.tr (h84.tr hs88)))) (And.intro rfl (And.intro rfl (And.intro rfl trivial)))
                  · refine s_ifne (pc := 171) 177 dX12_line_171 rfl ?_ ?_
                    · refine s_aload_n (pc := 177) 0 dX12_line_177 rfl rfl ?_
                      refine s_iload (pc := 178) dX12_line_178 rfl ?_
                      refine s_bind (fun q92 hq93 => ?_)
                      have hC94 := t_X12_draws (l := xl X) (G := xG X) hq93
                      refine s_callV (pc := 180) (As := [.int x69]) (st := []) (nlt rfl) (q := (RX12, TX12, 59)) rfl rfl o85 cl_X12_draws wi_X12_draws wl_X12_draws km_X12_471 rfl rfl (nle rfl) (nle rfl) (nle rfl) dX12_line_180 hC94 ?_
                      have h95 := hC94.1 X
                      have o96 := h95.ok o85
                      show S0 X _ q92.1 183 [some (.ref (gh (xG X) + a0)), none, none, some (.int x3), some (.int s39.2), none, some (.int x69), none, none] [.int q92.2] _
                      refine s_istore (pc := 183) dX12_line_183 (nlt rfl) rfl (L' := [some (.ref (gh (xG X) + a0)), none, none, some (.int x3), some (.int s39.2), none, some (.int x69), some (.int q92.2), none]) rfl ?_
                      refine s_iconst (pc := 185) 0 dX12_line_185 kc_0 ?_
                      refine s_istore (pc := 186) dX12_line_186 (nlt rfl) rfl (L' := [some (.ref (gh (xG X) + a0)), none, none, some (.int x3), some (.int s39.2), none, some (.int x69), some (.int q92.2), some (.int 0)]) rfl ?_
                      refine s_drop (L' := [some (.ref (gh (xG X) + a0)), none, none, some (.int x3), some (.int s39.2), none, none, some (.int q92.2), some (.int 0)]) ?_ (And.intro rfl (And.intro rfl (And.intro rfl (And.intro rfl (And.intro rfl trivial)))))
                      refine s_loop1 q92.1 (fun s97 : Int32 × Int32 => q92.1) (fun s97 : Int32 × Int32 => [some (.ref (gh (xG X) + a0)), none, none, some (.int x3), some (.int s39.2), none, none, some (.int s97.1), some (.int s97.2)]) (fun x103 : Int32 => q92.1) 218 (fun x103 : Int32 => [some (.ref (gh (xG X) + a0)), none, none, some (.int x3), some (.int s39.2), none, none, none, some (.int x103)]) (fun x103 hx104 => ?_) (fun T99 R101 hT100 hR102 s97 hs98 => ?_) (q92.2, 0) Le.rf
                      · show S0 X _ q92.1 218 [some (.ref (gh (xG X) + a0)), none, none, some (.int x3), some (.int s39.2), none, none, none, some (.int x103)] [] _
                        refine s_aload_n (pc := 218) 0 dX12_line_218 rfl rfl ?_
                        refine s_geto (pc := 219) F_12 56 rfl o96 dX12_line_219 kf_X12_117 ?_
                        refine s_rvB (fun r113 => ?_)
                        refine s_iload (pc := 222) dX12_line_222 rfl ?_
                        refine s_iconst (pc := 224) 1 dX12_line_224 kc_1 ?_
                        refine s_iadd (pc := 225) dX12_line_225 ?_
                        refine s_aload_n (pc := 226) 0 dX12_line_226 rfl rfl ?_
                        refine s_geto (pc := 227) F_12 9 rfl o96 dX12_line_227 kf_X12_33 ?_
                        refine s_rvB (fun r114 => ?_)
                        refine s_iload (pc := 230) dX12_line_230 rfl ?_
                        refine s_grd (fun o115 => ?_)
                        refine s_grd (fun i116 => ?_)
                        refine s_iald (pc := 232) o115 i116 dX12_line_232 ?_
                        refine s_grd (fun o117 => ?_)
                        refine s_grd (fun i118 => ?_)
                        refine s_iast (pc := 233) o117 i118 dX12_line_233 (fun M119 hM120 => ?_)
                        have h121 := le_wI hM120
                        have o122 := h121.ok o96
                        exact s_drop (hj89 M119 (h95.tr h121)) (And.intro rfl (And.intro rfl (And.intro rfl trivial)))
                      · show S0 X _ q92.1 188 [some (.ref (gh (xG X) + a0)), none, none, some (.int x3), some (.int s39.2), none, none, some (.int s97.1), some (.int s97.2)] [] _
                        refine s_iload (pc := 188) dX12_line_188 rfl ?_
                        refine s_aload_n (pc := 190) 0 dX12_line_190 rfl rfl ?_
                        refine s_geto (pc := 191) F_12 10 rfl o96 dX12_line_191 kf_X12_36 ?_
                        refine s_rvB (fun r105 => ?_)
                        refine s_iload (pc := 194) dX12_line_194 rfl ?_
                        refine s_grd (fun o106 => ?_)
                        refine s_grd (fun i107 => ?_)
                        refine s_iald (pc := 196) o106 i107 dX12_line_196 ?_
                        refine s_iclt (pc := 197) 218 dX12_line_197 rfl ?_ ?_
                        · exact s_drop (hR102 s97.2 Le.rf) (And.intro rfl (And.intro rfl (And.intro rfl (And.intro rfl trivial))))
                        · refine s_iload (pc := 200) dX12_line_200 rfl ?_
                          refine s_aload_n (pc := 202) 0 dX12_line_202 rfl rfl ?_
                          refine s_geto (pc := 203) F_12 10 rfl o96 dX12_line_203 kf_X12_36 ?_
                          refine s_rvB (fun r108 => ?_)
                          refine s_iload (pc := 206) dX12_line_206 rfl ?_
                          refine s_grd (fun o109 => ?_)
                          refine s_grd (fun i110 => ?_)
                          refine s_iald (pc := 208) o109 i110 dX12_line_208 ?_
                          refine s_isub (pc := 209) dX12_line_209 ?_
                          refine s_istore (pc := 210) dX12_line_210 (nlt rfl) rfl (L' := [some (.ref (gh (xG X) + a0)), none, none, some (.int x3), some (.int s39.2), none, none, some (.int (s97.1 - (mI q92.1 r108 s97.2.toNatClampNeg))), some (.int s97.2)]) rfl ?_
                          refine s_bv (fun x111 : Int32 => [some (.ref (gh (xG X) + a0)), none, none, some (.int x3), some (.int s39.2), none, none, some (.int x111), some (.int s97.2)]) (fun x111 => ?_) rfl
                          refine s_iinc (pc := 212) dX12_line_212 rfl (v := s97.2 + 1) (congrArg (fun z : Int32 => s97.2 + z) kc_1) (nlt rfl) rfl (L' := [some (.ref (gh (xG X) + a0)), none, none, some (.int x3), some (.int s39.2), none, none, some (.int x111), some (.int (s97.2 + 1))]) rfl ?_
                          refine s_bv (fun x112 : Int32 => [some (.ref (gh (xG X) + a0)), none, none, some (.int x3), some (.int s39.2), none, none, some (.int x111), some (.int x112)]) (fun x112 => ?_) rfl
                          refine s_goto (pc := 215) 188 dX12_line_215 rfl ?_
                          exact s_drop (hT100 (x111, x112) Le.rf) (And.intro rfl (And.intro rfl (And.intro rfl (And.intro rfl (And.intro rfl trivial)))))
                    · refine s_goto (pc := 174) 234 dX12_line_174 rfl ?_
                      exact s_drop (hj89 M82 Le.rf) (And.intro rfl (And.intro rfl (And.intro rfl trivial)))
                · show S0 X _ q58 126 [some (.ref (gh (xG X) + a0)), none, none, some (.int x3), some (.int s39.2), none, some (.int s63.1), some (.int s63.2), none] [] _
                  refine s_iload (pc := 126) dX12_line_126 rfl ?_
                  refine s_aload_n (pc := 128) 0 dX12_line_128 rfl rfl ?_
                  refine s_geti (pc := 129) F_12 11 rfl o62 dX12_line_129 kf_X12_174 ?_
                  refine s_icge (pc := 132) 153 dX12_line_132 rfl ?_ ?_
                  · exact s_drop (hR68 s63.1 Le.rf) (And.intro rfl (And.intro rfl (And.intro rfl (And.intro rfl trivial))))
                  · refine s_iload (pc := 135) dX12_line_135 rfl ?_
                    refine s_aload_n (pc := 137) 0 dX12_line_137 rfl rfl ?_
                    refine s_geto (pc := 138) F_12 10 rfl o62 dX12_line_138 kf_X12_36 ?_
                    refine s_rvB (fun r71 => ?_)
                    refine s_iload (pc := 141) dX12_line_141 rfl ?_
                    refine s_grd (fun o72 => ?_)
                    refine s_grd (fun i73 => ?_)
                    refine s_iald (pc := 143) o72 i73 dX12_line_143 ?_
                    refine s_iadd (pc := 144) dX12_line_144 ?_
                    refine s_istore (pc := 145) dX12_line_145 (nlt rfl) rfl (L' := [some (.ref (gh (xG X) + a0)), none, none, some (.int x3), some (.int s39.2), none, some (.int (s63.1 + (mI q58 r71 s63.2.toNatClampNeg))), some (.int s63.2), none]) rfl ?_
                    refine s_bv (fun x74 : Int32 => [some (.ref (gh (xG X) + a0)), none, none, some (.int x3), some (.int s39.2), none, some (.int x74), some (.int s63.2), none]) (fun x74 => ?_) rfl
                    refine s_iinc (pc := 147) dX12_line_147 rfl (v := s63.2 + 1) (congrArg (fun z : Int32 => s63.2 + z) kc_1) (nlt rfl) rfl (L' := [some (.ref (gh (xG X) + a0)), none, none, some (.int x3), some (.int s39.2), none, some (.int x74), some (.int (s63.2 + 1)), none]) rfl ?_
                    refine s_bv (fun x75 : Int32 => [some (.ref (gh (xG X) + a0)), none, none, some (.int x3), some (.int s39.2), none, some (.int x74), some (.int x75), none]) (fun x75 => ?_) rfl
                    refine s_goto (pc := 150) 126 dX12_line_150 rfl ?_
                    exact s_drop (hT66 (x74, x75) Le.rf) (And.intro rfl (And.intro rfl (And.intro rfl (And.intro rfl (And.intro rfl trivial)))))
              · refine s_icle (pc := 85) 94 dX12_line_85 rfl ?_ ?_
                · refine s_aload_n (pc := 94) 0 dX12_line_94 rfl rfl ?_
                  refine s_geto (pc := 95) F_12 3 rfl o45 dX12_line_95 kf_X12_20 ?_
                  refine s_rvB (fun r123 => ?_)
                  refine s_bipush (pc := 98) 54 dX12_line_98 kb_54 ?_
                  refine s_grd (fun o124 => ?_)
                  refine s_grd (fun i125 => ?_)
                  refine s_iald (pc := 100) o124 i125 dX12_line_100 ?_
                  refine s_iload (pc := 101) dX12_line_101 rfl ?_
                  refine s_iadd (pc := 103) dX12_line_103 ?_
                  exact s_drop (hj54 ((mI s39.1 r123 (54 : Int32).toNatClampNeg) + s39.2) Le.rf) (And.intro rfl (And.intro rfl (And.intro rfl trivial)))
                · refine s_sipush (pc := 88) 999 dX12_line_88 ks_999 ?_
                  refine s_goto (pc := 91) 104 dX12_line_91 rfl ?_
                  exact s_drop (hj54 999 Le.rf) (And.intro rfl (And.intro rfl (And.intro rfl trivial)))
        · refine s_aload_n (pc := 34) 0 dX12_line_34 rfl rfl ?_
          refine s_bipush (pc := 35) (-2) dX12_line_35 kb_m2 ?_
          refine s_bind (fun q135 hq136 => ?_)
          have hC137 := t_X12_refuses (l := xl X) (G := xG X) hq136
          refine s_callV (pc := 37) (As := [.int (-2)]) (st := []) (nlt rfl) (q := (RX12, TX12, 59)) rfl rfl o17 cl_X12_refuses wi_X12_refuses wl_X12_refuses km_X12_127 rfl rfl (nle rfl) (nle rfl) (nle rfl) dX12_line_37 hC137 ?_
          have h138 := hC137.1 X
          have o139 := h138.ok o17
          show S0 X _ q135.1 40 [some (.ref (gh (xG X) + a0)), some (.int x1), some (.int x2), some (.int x3), none, none, none, none, none] [.int q135.2] _
          exact s_iret rfl dX12_line_40
      · exact s_drop (hj7 () Le.rf) (And.intro rfl trivial)
noncomputable def f_X12_obeys (M : Mem) (a0 : Nat) : Option (Mem × Int32) :=
  grd (okO M 12 a0) (if (mI M a0 51) = 19 then (Option.bind (mR M a0 55) (fun r18 => grd (okO M 15 r18) (grd (vp_in 0 (mL M r18)) (Option.bind (f_X12_small (mJ M r18 (0 : Int32).toNatClampNeg)) (fun q21 => Option.bind (mR M a0 55) (fun r24 => grd (okO M 15 r24) (grd (vp_in 2 (mL M r24)) (Option.bind (f_X12_small (mJ M r24 (2 : Int32).toNatClampNeg)) (fun q27 => Option.bind (mR M a0 55) (fun r30 => grd (okO M 15 r30) (grd (vp_in 1 (mL M r30)) (Option.bind (f_X12_small (mJ M r30 (1 : Int32).toNatClampNeg)) (fun q33 => Option.bind (f_X12_bears M a0 q21 (mI M a0 52) q27 q33) (fun q36 => if q36.2 < 0 then (some (q36.1, q36.2)) else (Option.bind (f_X12_fact q36.1 a0 q36.2 2) (fun q41 => bv (wI q36.1 a0 48 q41) (fun M44 => some (M44, q36.2)))))))))))))))))) else (Option.bind (mR M a0 55) (fun r2 => grd (okO M 15 r2) (grd (vp_in 0 (mL M r2)) (Option.bind (f_X12_small (mJ M r2 (0 : Int32).toNatClampNeg)) (fun q5 => Option.bind (f_X12_lies q5 0 999) (fun q8 => if q8 = 0 then (some (M, (-1))) else (Option.bind (mR M a0 3) (fun r11 => grd (okO M 14 r11) (grd (vp_in 54 (mL M r11)) (bv (wI M r11 (54 : Int32).toNatClampNeg q5) (fun M14 => some (M14, 0)))))))))))))
abbrev Y_X12_obeys : Sta := (RX12, "obeys", cX12_obeys, 2, (some .int), 108)
set_option maxRecDepth 100000 in
set_option maxHeartbeats 8000000 in
theorem t_X12_obeys {l : Launch} {G : Gh} {M : Mem} {a0 : Nat} {q : Mem × Int32} (h : f_X12_obeys M a0 = some q) : Ctr l G yX12_obeys Y_X12_obeys M [.ref (gh G + a0)] q.1 (some (.int q.2)) := by
  refine Ctr.of (Y := Y_X12_obeys) (L := [some (.ref (gh G + a0)), none]) (t := Option.bind (f_X12_obeys M a0) (fun q => some (q.1, some (.int q.2)))) (by decide) rfl rfl (nle rfl) (Lof_in 1 _ rfl) (fun X hG hl => ?_) (by rw [h]; rfl)
  subst hG
  subst hl
  unfold f_X12_obeys
  refine s_aload_n (pc := 0) 0 dX12_obeys_0 rfl rfl ?_
  refine s_grd (fun o1 => ?_)
  refine s_geti (pc := 1) F_12 51 rfl o1 dX12_obeys_1 kf_X12_434 ?_
  refine s_bipush (pc := 4) 19 dX12_obeys_4 kb_19 ?_
  refine s_icne (pc := 6) 61 dX12_obeys_6 rfl ?_ ?_
  · refine s_aload_n (pc := 61) 0 dX12_obeys_61 rfl rfl ?_
    refine s_geto (pc := 62) F_12 55 rfl o1 dX12_obeys_62 kf_X12_114 ?_
    refine s_rvB (fun r2 => ?_)
    refine s_iconst (pc := 65) 0 dX12_obeys_65 kc_0 ?_
    refine s_grd (fun o3 => ?_)
    refine s_grd (fun i4 => ?_)
    refine s_lald (pc := 66) o3 i4 dX12_obeys_66 ?_
    refine s_bind (fun q5 hq6 => ?_)
    have hC7 := t_X12_small (l := xl X) (G := xG X) (M := M) hq6
    refine s_callS (pc := 67) (As := [.long (mJ M r2 (0 : Int32).toNatClampNeg)]) (st := []) cl_X12_small wt_X12_small km_X12_452 rfl rfl (nle rfl) (nle rfl) (nle rfl) dX12_obeys_67 hC7 ?_
    show S0 X _ M 70 [some (.ref (gh (xG X) + a0)), none] [.int q5] _
    refine s_istore_n (pc := 70) 1 dX12_obeys_70 rfl (nlt rfl) rfl (L' := [some (.ref (gh (xG X) + a0)), some (.int q5)]) rfl ?_
    refine s_iload_n (pc := 71) 1 dX12_obeys_71 rfl rfl ?_
    refine s_iconst (pc := 72) 0 dX12_obeys_72 kc_0 ?_
    refine s_sipush (pc := 73) 999 dX12_obeys_73 ks_999 ?_
    refine s_bind (fun q8 hq9 => ?_)
    have hC10 := t_X12_lies (l := xl X) (G := xG X) (M := M) hq9
    refine s_callS (pc := 76) (As := [.int q5, .int 0, .int 999]) (st := []) cl_X12_lies wt_X12_lies km_X12_123 rfl rfl (nle rfl) (nle rfl) (nle rfl) dX12_obeys_76 hC10 ?_
    show S0 X _ M 79 [some (.ref (gh (xG X) + a0)), some (.int q5)] [.int q8] _
    refine s_ifne (pc := 79) 84 dX12_obeys_79 rfl ?_ ?_
    · refine s_aload_n (pc := 84) 0 dX12_obeys_84 rfl rfl ?_
      refine s_geto (pc := 85) F_12 3 rfl o1 dX12_obeys_85 kf_X12_20 ?_
      refine s_rvB (fun r11 => ?_)
      refine s_bipush (pc := 88) 54 dX12_obeys_88 kb_54 ?_
      refine s_iload_n (pc := 90) 1 dX12_obeys_90 rfl rfl ?_
      refine s_grd (fun o12 => ?_)
      refine s_grd (fun i13 => ?_)
      refine s_iast (pc := 91) o12 i13 dX12_obeys_91 (fun M14 hM15 => ?_)
      have h16 := le_wI hM15
      have o17 := h16.ok o1
      refine s_iconst (pc := 92) 0 dX12_obeys_92 kc_0 ?_
      exact s_iret rfl dX12_obeys_93
    · refine s_iconst (pc := 82) (-1) dX12_obeys_82 kc_m1 ?_
      exact s_iret rfl dX12_obeys_83
  · refine s_aload_n (pc := 9) 0 dX12_obeys_9 rfl rfl ?_
    refine s_aload_n (pc := 10) 0 dX12_obeys_10 rfl rfl ?_
    refine s_geto (pc := 11) F_12 55 rfl o1 dX12_obeys_11 kf_X12_114 ?_
    refine s_rvB (fun r18 => ?_)
    refine s_iconst (pc := 14) 0 dX12_obeys_14 kc_0 ?_
    refine s_grd (fun o19 => ?_)
    refine s_grd (fun i20 => ?_)
    refine s_lald (pc := 15) o19 i20 dX12_obeys_15 ?_
    refine s_bind (fun q21 hq22 => ?_)
    have hC23 := t_X12_small (l := xl X) (G := xG X) (M := M) hq22
    refine s_callS (pc := 16) (As := [.long (mJ M r18 (0 : Int32).toNatClampNeg)]) (st := [.ref (gh (xG X) + a0)]) cl_X12_small wt_X12_small km_X12_452 rfl rfl (nle rfl) (nle rfl) (nle rfl) dX12_obeys_16 hC23 ?_
    show S0 X _ M 19 [some (.ref (gh (xG X) + a0)), none] [.int q21, .ref (gh (xG X) + a0)] _
    refine s_aload_n (pc := 19) 0 dX12_obeys_19 rfl rfl ?_
    refine s_geti (pc := 20) F_12 52 rfl o1 dX12_obeys_20 kf_X12_441 ?_
    refine s_aload_n (pc := 23) 0 dX12_obeys_23 rfl rfl ?_
    refine s_geto (pc := 24) F_12 55 rfl o1 dX12_obeys_24 kf_X12_114 ?_
    refine s_rvB (fun r24 => ?_)
    refine s_iconst (pc := 27) 2 dX12_obeys_27 kc_2 ?_
    refine s_grd (fun o25 => ?_)
    refine s_grd (fun i26 => ?_)
    refine s_lald (pc := 28) o25 i26 dX12_obeys_28 ?_
    refine s_bind (fun q27 hq28 => ?_)
    have hC29 := t_X12_small (l := xl X) (G := xG X) (M := M) hq28
    refine s_callS (pc := 29) (As := [.long (mJ M r24 (2 : Int32).toNatClampNeg)]) (st := [.int (mI M a0 52), .int q21, .ref (gh (xG X) + a0)]) cl_X12_small wt_X12_small km_X12_452 rfl rfl (nle rfl) (nle rfl) (nle rfl) dX12_obeys_29 hC29 ?_
    show S0 X _ M 32 [some (.ref (gh (xG X) + a0)), none] [.int q27, .int (mI M a0 52), .int q21, .ref (gh (xG X) + a0)] _
    refine s_aload_n (pc := 32) 0 dX12_obeys_32 rfl rfl ?_
    refine s_geto (pc := 33) F_12 55 rfl o1 dX12_obeys_33 kf_X12_114 ?_
    refine s_rvB (fun r30 => ?_)
    refine s_iconst (pc := 36) 1 dX12_obeys_36 kc_1 ?_
    refine s_grd (fun o31 => ?_)
    refine s_grd (fun i32 => ?_)
    refine s_lald (pc := 37) o31 i32 dX12_obeys_37 ?_
    refine s_bind (fun q33 hq34 => ?_)
    have hC35 := t_X12_small (l := xl X) (G := xG X) (M := M) hq34
    refine s_callS (pc := 38) (As := [.long (mJ M r30 (1 : Int32).toNatClampNeg)]) (st := [.int q27, .int (mI M a0 52), .int q21, .ref (gh (xG X) + a0)]) cl_X12_small wt_X12_small km_X12_452 rfl rfl (nle rfl) (nle rfl) (nle rfl) dX12_obeys_38 hC35 ?_
    show S0 X _ M 41 [some (.ref (gh (xG X) + a0)), none] [.int q33, .int q27, .int (mI M a0 52), .int q21, .ref (gh (xG X) + a0)] _
    refine s_bind (fun q36 hq37 => ?_)
    have hC38 := t_X12_bears (l := xl X) (G := xG X) hq37
    refine s_callV (pc := 41) (As := [.int q21, .int (mI M a0 52), .int q27, .int q33]) (st := []) (nlt rfl) (q := (RX12, TX12, 59)) rfl rfl o1 cl_X12_bears wi_X12_bears wl_X12_bears km_X12_208 rfl rfl (nle rfl) (nle rfl) (nle rfl) dX12_obeys_41 hC38 ?_
    have h39 := hC38.1 X
    have o40 := h39.ok o1
    show S0 X _ q36.1 44 [some (.ref (gh (xG X) + a0)), none] [.int q36.2] _
    refine s_istore_n (pc := 44) 1 dX12_obeys_44 rfl (nlt rfl) rfl (L' := [some (.ref (gh (xG X) + a0)), some (.int q36.2)]) rfl ?_
    refine s_iload_n (pc := 45) 1 dX12_obeys_45 rfl rfl ?_
    refine s_iflt (pc := 46) 59 dX12_obeys_46 rfl ?_ ?_
    · refine s_iload_n (pc := 59) 1 dX12_obeys_59 rfl rfl ?_
      exact s_iret rfl dX12_obeys_60
    · refine s_aload_n (pc := 49) 0 dX12_obeys_49 rfl rfl ?_
      refine s_aload_n (pc := 50) 0 dX12_obeys_50 rfl rfl ?_
      refine s_iload_n (pc := 51) 1 dX12_obeys_51 rfl rfl ?_
      refine s_iconst (pc := 52) 2 dX12_obeys_52 kc_2 ?_
      refine s_bind (fun q41 hq42 => ?_)
      have hC43 := t_X12_fact (l := xl X) (G := xG X) hq42
      refine s_callV (pc := 53) (As := [.int q36.2, .int 2]) (st := [.ref (gh (xG X) + a0)]) (nlt rfl) (q := (RX12, TX12, 59)) rfl rfl o40 cl_X12_fact wi_X12_fact wl_X12_fact km_X12_194 rfl rfl (nle rfl) (nle rfl) (nle rfl) dX12_obeys_53 hC43 ?_
      show S0 X _ q36.1 56 [some (.ref (gh (xG X) + a0)), some (.int q36.2)] [.int q41, .ref (gh (xG X) + a0)] _
      refine s_puti (pc := 56) F_12 48 rfl o40 rfl rfl rfl dX12_obeys_56 kf_X12_422 (fun M44 hM45 => ?_)
      have h46 := le_wI hM45
      have o47 := h46.ok o40
      refine s_iload_n (pc := 59) 1 dX12_obeys_59 rfl rfl ?_
      exact s_iret rfl dX12_obeys_60
