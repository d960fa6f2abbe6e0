set_option maxRecDepth 100000 in
set_option maxHeartbeats 8000000 in
noncomputable def f_X12_change (M : Mem) (a0 : Nat) (p1 : Int32) (p2 : Int32) (p3 : Int32) (p4 : Int32) (p5 : Int32) : Option (Mem × Int32) :=
  Option.bind (f_X12_isDish p1) (fun q1 => if q1 = 0 then (some (M, (-1))) else (Option.bind (f_X12_lies p2 0 4) (fun q4 => if q4 = 0 then (some (M, (-1))) else (bv (fun (s8 : Unit) => Option.bind (f_X12_lies p5 0 1) (fun q11 => if q11 = 0 then (some (M, (-1))) else (grd (okO M 12 a0) (Option.bind (mR M a0 3) (fun r15 => grd (okO M 14 r15) (grd (vp_in 54 (mL M r15)) (Option.bind (f_X12_changed M a0 p1 p2 p3 p4 (mI M r15 (54 : Int32).toNatClampNeg)) (fun q18 => if q18.2 = (-1) then (some (q18.1, (-1))) else (if p5 = 0 then (some (q18.1, q18.2)) else (Option.bind (mR q18.1 a0 3) (fun r23 => grd (okO q18.1 14 r23) (grd (vp_in 54 (mL q18.1 r23)) (Option.bind (f_X12_weighs q18.1 a0 p1 p2 p3 (mI q18.1 r23 (54 : Int32).toNatClampNeg)) (fun q26 => some (q26.1, q26.2))))))))))))))) (fun j7 => if p2 = 1 then (Option.bind (f_X12_isThing p4) (fun q31 => if q31 = 0 then (some (M, (-1))) else (j7 ()))) else (j7 ()))))))
abbrev Y_X12_change : Sta := (RX12, "change", cX12_change, 7, (some .int), 207)
set_option maxRecDepth 100000 in
set_option maxHeartbeats 8000000 in
theorem t_X12_change {l : Launch} {G : Gh} {M : Mem} {a0 : Nat} {p1 : Int32} {p2 : Int32} {p3 : Int32} {p4 : Int32} {p5 : Int32} {q : Mem × Int32} (h : f_X12_change M a0 p1 p2 p3 p4 p5 = some q) : Ctr l G yX12_change Y_X12_change M [.ref (gh G + a0), .int p1, .int p2, .int p3, .int p4, .int p5] q.1 (some (.int q.2)) := by
  refine Ctr.of (Y := Y_X12_change) (L := [some (.ref (gh G + a0)), some (.int p1), some (.int p2), some (.int p3), some (.int p4), some (.int p5), none]) (t := Option.bind (f_X12_change M a0 p1 p2 p3 p4 p5) (fun q => some (q.1, some (.int q.2)))) (by decide) rfl rfl (nle rfl) (Lof_in 1 _ rfl) (fun X hG hl => ?_) (by rw [h]; rfl)
  subst hG
  subst hl
  unfold f_X12_change
  refine s_iload_n (pc := 0) 1 dX12_change_0 rfl rfl ?_
  refine s_bind (fun q1 hq2 => ?_)
  have hC3 := t_X12_isDish (l := xl X) (G := xG X) (M := M) hq2
  refine s_callS (pc := 1) (As := [.int p1]) (st := []) cl_X12_isDish wt_X12_isDish km_X12_184 rfl rfl (nle rfl) (nle rfl) (nle rfl) dX12_change_1 hC3 ?_
  show S0 X _ M 4 [some (.ref (gh (xG X) + a0)), some (.int p1), some (.int p2), some (.int p3), some (.int p4), some (.int p5), none] [.int q1] _
  refine s_ifeq (pc := 4) 39 dX12_change_4 rfl ?_ ?_
  · refine s_iconst (pc := 39) (-1) dX12_change_39 kc_m1 ?_
    exact s_iret rfl dX12_change_40
  · refine s_iload_n (pc := 7) 2 dX12_change_7 rfl rfl ?_
    refine s_iconst (pc := 8) 0 dX12_change_8 kc_0 ?_
    refine s_iconst (pc := 9) 4 dX12_change_9 kc_4 ?_
    refine s_bind (fun q4 hq5 => ?_)
    have hC6 := t_X12_lies (l := xl X) (G := xG X) (M := M) hq5
    refine s_callS (pc := 10) (As := [.int p2, .int 0, .int 4]) (st := []) cl_X12_lies wt_X12_lies km_X12_123 rfl rfl (nle rfl) (nle rfl) (nle rfl) dX12_change_10 hC6 ?_
    show S0 X _ M 13 [some (.ref (gh (xG X) + a0)), some (.int p1), some (.int p2), some (.int p3), some (.int p4), some (.int p5), none] [.int q4] _
    refine s_ifeq (pc := 13) 39 dX12_change_13 rfl ?_ ?_
    · refine s_iconst (pc := 39) (-1) dX12_change_39 kc_m1 ?_
      exact s_iret rfl dX12_change_40
    · refine s_iload_n (pc := 16) 2 dX12_change_16 rfl rfl ?_
      refine s_iconst (pc := 17) 1 dX12_change_17 kc_1 ?_
      refine s_join M (fun s8 : Unit => M) 29 (fun s8 : Unit => [some (.ref (gh (xG X) + a0)), some (.int p1), some (.int p2), some (.int p3), some (.int p4), some (.int p5), none]) (fun s8 : Unit => []) (fun s8 hs9 => ?_) (fun j7 hj10 => ?_)
      · show S0 X _ M 29 [some (.ref (gh (xG X) + a0)), some (.int p1), some (.int p2), some (.int p3), some (.int p4), some (.int p5), none] [] _
        refine s_iload (pc := 29) dX12_change_29 rfl ?_
        refine s_iconst (pc := 31) 0 dX12_change_31 kc_0 ?_
        refine s_iconst (pc := 32) 1 dX12_change_32 kc_1 ?_
        refine s_bind (fun q11 hq12 => ?_)
        have hC13 := t_X12_lies (l := xl X) (G := xG X) (M := M) hq12
        refine s_callS (pc := 33) (As := [.int p5, .int 0, .int 1]) (st := []) cl_X12_lies wt_X12_lies km_X12_123 rfl rfl (nle rfl) (nle rfl) (nle rfl) dX12_change_33 hC13 ?_
        show S0 X _ M 36 [some (.ref (gh (xG X) + a0)), some (.int p1), some (.int p2), some (.int p3), some (.int p4), some (.int p5), none] [.int q11] _
        refine s_ifne (pc := 36) 41 dX12_change_36 rfl ?_ ?_
        · refine s_aload_n (pc := 41) 0 dX12_change_41 rfl rfl ?_
          refine s_iload_n (pc := 42) 1 dX12_change_42 rfl rfl ?_
          refine s_iload_n (pc := 43) 2 dX12_change_43 rfl rfl ?_
          refine s_iload_n (pc := 44) 3 dX12_change_44 rfl rfl ?_
          refine s_iload (pc := 45) dX12_change_45 rfl ?_
          refine s_aload_n (pc := 47) 0 dX12_change_47 rfl rfl ?_
          refine s_grd (fun o14 => ?_)
          refine s_geto (pc := 48) F_12 3 rfl o14 dX12_change_48 kf_X12_20 ?_
          refine s_rvB (fun r15 => ?_)
          refine s_bipush (pc := 51) 54 dX12_change_51 kb_54 ?_
          refine s_grd (fun o16 => ?_)
          refine s_grd (fun i17 => ?_)
          refine s_iald (pc := 53) o16 i17 dX12_change_53 ?_
          refine s_bind (fun q18 hq19 => ?_)
          have hC20 := t_X12_changed (l := xl X) (G := xG X) hq19
          refine s_callV (pc := 54) (As := [.int p1, .int p2, .int p3, .int p4, .int (mI M r15 (54 : Int32).toNatClampNeg)]) (st := []) (nlt rfl) (q := (RX12, TX12, 59)) rfl rfl o14 cl_X12_changed wi_X12_changed wl_X12_changed km_X12_177 rfl rfl (nle rfl) (nle rfl) (nle rfl) dX12_change_54 hC20 ?_
          have h21 := hC20.1 X
          have o22 := h21.ok o14
          show S0 X _ q18.1 57 [some (.ref (gh (xG X) + a0)), some (.int p1), some (.int p2), some (.int p3), some (.int p4), some (.int p5), none] [.int q18.2] _
          refine s_istore (pc := 57) dX12_change_57 (nlt rfl) rfl (L' := [some (.ref (gh (xG X) + a0)), some (.int p1), some (.int p2), some (.int p3), some (.int p4), some (.int p5), some (.int q18.2)]) rfl ?_
          refine s_iload (pc := 59) dX12_change_59 rfl ?_
          refine s_iconst (pc := 61) (-1) dX12_change_61 kc_m1 ?_
          refine s_icne (pc := 62) 69 dX12_change_62 rfl ?_ ?_
          · refine s_iload (pc := 69) dX12_change_69 rfl ?_
            refine s_ifne (pc := 71) 79 dX12_change_71 rfl ?_ ?_
            · refine s_aload_n (pc := 79) 0 dX12_change_79 rfl rfl ?_
              refine s_iload_n (pc := 80) 1 dX12_change_80 rfl rfl ?_
              refine s_iload_n (pc := 81) 2 dX12_change_81 rfl rfl ?_
              refine s_iload_n (pc := 82) 3 dX12_change_82 rfl rfl ?_
              refine s_aload_n (pc := 83) 0 dX12_change_83 rfl rfl ?_
              refine s_geto (pc := 84) F_12 3 rfl o22 dX12_change_84 kf_X12_20 ?_
              refine s_rvB (fun r23 => ?_)
              refine s_bipush (pc := 87) 54 dX12_change_87 kb_54 ?_
              refine s_grd (fun o24 => ?_)
              refine s_grd (fun i25 => ?_)
              refine s_iald (pc := 89) o24 i25 dX12_change_89 ?_
              refine s_bind (fun q26 hq27 => ?_)
              have hC28 := t_X12_weighs (l := xl X) (G := xG X) hq27
              refine s_callV (pc := 90) (As := [.int p1, .int p2, .int p3, .int (mI q18.1 r23 (54 : Int32).toNatClampNeg)]) (st := []) (nlt rfl) (q := (RX12, TX12, 59)) rfl rfl o22 cl_X12_weighs wi_X12_weighs wl_X12_weighs km_X12_181 rfl rfl (nle rfl) (nle rfl) (nle rfl) dX12_change_90 hC28 ?_
              have h29 := hC28.1 X
              have o30 := h29.ok o22
              show S0 X _ q26.1 93 [some (.ref (gh (xG X) + a0)), some (.int p1), some (.int p2), some (.int p3), some (.int p4), some (.int p5), some (.int q18.2)] [.int q26.2] _
              exact s_iret rfl dX12_change_93
            · refine s_iload (pc := 74) dX12_change_74 rfl ?_
              refine s_goto (pc := 76) 93 dX12_change_76 rfl ?_
              exact s_iret rfl dX12_change_93
          · refine s_iconst (pc := 65) (-1) dX12_change_65 kc_m1 ?_
            refine s_goto (pc := 66) 93 dX12_change_66 rfl ?_
            exact s_iret rfl dX12_change_93
        · refine s_iconst (pc := 39) (-1) dX12_change_39 kc_m1 ?_
          exact s_iret rfl dX12_change_40
      · refine s_icne (pc := 18) 29 dX12_change_18 rfl ?_ ?_
        · exact s_drop (hj10 () Le.rf) (And.intro rfl (And.intro rfl (And.intro rfl (And.intro rfl (And.intro rfl (And.intro rfl trivial))))))
        · refine s_iload (pc := 21) dX12_change_21 rfl ?_
          refine s_bind (fun q31 hq32 => ?_)
          have hC33 := t_X12_isThing (l := xl X) (G := xG X) (M := M) hq32
          refine s_callS (pc := 23) (As := [.int p4]) (st := []) cl_X12_isThing wt_X12_isThing km_X12_134 rfl rfl (nle rfl) (nle rfl) (nle rfl) dX12_change_23 hC33 ?_
          show S0 X _ M 26 [some (.ref (gh (xG X) + a0)), some (.int p1), some (.int p2), some (.int p3), some (.int p4), some (.int p5), none] [.int q31] _
          refine s_ifeq (pc := 26) 39 dX12_change_26 rfl ?_ ?_
          · refine s_iconst (pc := 39) (-1) dX12_change_39 kc_m1 ?_
            exact s_iret rfl dX12_change_40
          · exact s_drop (hj10 () Le.rf) (And.intro rfl (And.intro rfl (And.intro rfl (And.intro rfl (And.intro rfl (And.intro rfl trivial))))))
set_option maxRecDepth 100000 in
set_option maxHeartbeats 8000000 in
noncomputable def f_X12_lists (M : Mem) (a0 : Nat) (p1 : Int32) (p2 : Int32) (p3 : Int32) : Option Mem :=
  grd (okO M 12 a0) (bv (wI M a0 11 0) (fun M2 => Option.bind (f_X12_longOf p1) (fun q6 => Option.bind (loopO (σ := Mem × Int32) (ρ := Mem) (fun s9 => if 5 ≤ s9.2 then (some (.inr s9.1)) else (Option.bind (loopO (σ := Mem × Int32) (ρ := Mem) (fun s18 => if q6 < s18.2 then (some (.inr s18.1)) else (Option.bind (loopO (σ := Mem × Int32) (ρ := Mem) (fun s27 => bv (fun (s37 : Int32) => if s37 ≤ s27.2 then (some (.inr s27.1)) else (Option.bind (f_X12_changed s27.1 a0 p1 s9.2 s18.2 s27.2 p2) (fun q40 => bv (fun (s46 : Mem) => bv (s27.2 + 1 : Int32) (fun x50 => some (.inl (s46, x50)))) (fun j45 => if q40.2 = (-1) then (j45 q40.1) else (Option.bind (mR q40.1 a0 9) (fun r51 => grd (okO q40.1 14 r51) (grd (vp_in (mI q40.1 a0 11) (mL q40.1 r51)) (bv (wI q40.1 r51 (mI q40.1 a0 11).toNatClampNeg q40.2) (fun M54 => Option.bind (mR M54 a0 10) (fun r58 => bv (fun (s60 : Mem × Int32) => grd (okO s60.1 14 r58) (grd (vp_in (mI M54 a0 11) (mL s60.1 r58)) (bv (wI s60.1 r58 (mI M54 a0 11).toNatClampNeg s60.2) (fun M66 => bv (wI M66 a0 11 ((mI M66 a0 11) + 1)) (fun M70 => j45 M70))))) (fun j59 => if p3 = 0 then (j59 (M54, 0)) else (Option.bind (f_X12_weighs M54 a0 p1 s9.2 s18.2 p2) (fun q74 => j59 (q74.1, q74.2)))))))))))))) (fun j36 => if s9.2 = 1 then (j36 6) else (j36 1))) (s18.1, 0)) (fun (x34 : Mem) => bv (s18.2 + 1 : Int32) (fun x80 => some (.inl (x34, x80)))))) (s9.1, 0)) (fun (x25 : Mem) => bv (s9.2 + 1 : Int32) (fun x82 => some (.inl (x25, x82)))))) (M2, 0)) (fun (x16 : Mem) => some x16))))
abbrev Y_X12_lists : Sta := (RX12, "lists", cX12_lists, 9, none, 207)
set_option maxRecDepth 100000 in
set_option maxHeartbeats 8000000 in
theorem t_X12_lists {l : Launch} {G : Gh} {M : Mem} {a0 : Nat} {p1 : Int32} {p2 : Int32} {p3 : Int32} {q : Mem} (h : f_X12_lists M a0 p1 p2 p3 = some q) : Ctr l G yX12_lists Y_X12_lists M [.ref (gh G + a0), .int p1, .int p2, .int p3] q (none) := by
  refine Ctr.of (Y := Y_X12_lists) (L := [some (.ref (gh G + a0)), some (.int p1), some (.int p2), some (.int p3), none, none, none, none, none]) (t := Option.bind (f_X12_lists M a0 p1 p2 p3) (fun q => some (q, (none : Option Value)))) (by decide) rfl rfl (nle rfl) (Lof_in 5 _ rfl) (fun X hG hl => ?_) (by rw [h]; rfl)
  subst hG
  subst hl
  unfold f_X12_lists
  refine s_aload_n (pc := 0) 0 dX12_lists_0 rfl rfl ?_
  refine s_iconst (pc := 1) 0 dX12_lists_1 kc_0 ?_
  refine s_grd (fun o1 => ?_)
  refine s_puti (pc := 2) F_12 11 rfl o1 rfl rfl rfl dX12_lists_2 kf_X12_174 (fun M2 hM3 => ?_)
  have h4 := le_wI hM3
  have o5 := h4.ok o1
  refine s_iload_n (pc := 5) 1 dX12_lists_5 rfl rfl ?_
  refine s_bind (fun q6 hq7 => ?_)
  have hC8 := t_X12_longOf (l := xl X) (G := xG X) (M := M2) hq7
  refine s_callS (pc := 6) (As := [.int p1]) (st := []) cl_X12_longOf wt_X12_longOf km_X12_156 rfl rfl (nle rfl) (nle rfl) (nle rfl) dX12_lists_6 hC8 ?_
  show S0 X _ M2 9 [some (.ref (gh (xG X) + a0)), some (.int p1), some (.int p2), some (.int p3), none, none, none, none, none] [.int q6] _
  refine s_istore (pc := 9) dX12_lists_9 (nlt rfl) rfl (L' := [some (.ref (gh (xG X) + a0)), some (.int p1), some (.int p2), some (.int p3), some (.int q6), none, none, none, none]) rfl ?_
  refine s_iconst (pc := 11) 0 dX12_lists_11 kc_0 ?_
  refine s_istore (pc := 12) dX12_lists_12 (nlt rfl) rfl (L' := [some (.ref (gh (xG X) + a0)), some (.int p1), some (.int p2), some (.int p3), some (.int q6), some (.int 0), none, none, none]) rfl ?_
  refine s_drop (L' := [some (.ref (gh (xG X) + a0)), some (.int p1), some (.int p2), some (.int p3), some (.int q6), some (.int 0), none, none, none]) ?_ (And.intro rfl (And.intro rfl (And.intro rfl (And.intro rfl (And.intro rfl (And.intro rfl trivial))))))
  refine s_loop1 M2 (fun s9 : Mem × Int32 => s9.1) (fun s9 : Mem × Int32 => [some (.ref (gh (xG X) + a0)), some (.int p1), some (.int p2), some (.int p3), some (.int q6), some (.int s9.2), none, none, none]) (fun x16 : Mem => x16) 139 (fun x16 : Mem => [none, none, none, none, none, none, none, none, none]) (fun x16 hx17 => ?_) (fun T11 R13 hT12 hR14 s9 hs10 => ?_) (M2, 0) Le.rf
  · show S0 X _ x16 139 [none, none, none, none, none, none, none, none, none] [] _
    exact s_vret rfl dX12_lists_139
  · show S0 X _ s9.1 14 [some (.ref (gh (xG X) + a0)), some (.int p1), some (.int p2), some (.int p3), some (.int q6), some (.int s9.2), none, none, none] [] _
    have o15 := hs10.ok o5
    refine s_iload (pc := 14) dX12_lists_14 rfl ?_
    refine s_iconst (pc := 16) 5 dX12_lists_16 kc_5 ?_
    refine s_icge (pc := 17) 139 dX12_lists_17 rfl ?_ ?_
    · exact s_drop (hR14 s9.1 hs10) trivial
    · refine s_iconst (pc := 20) 0 dX12_lists_20 kc_0 ?_
      refine s_istore (pc := 21) dX12_lists_21 (nlt rfl) rfl (L' := [some (.ref (gh (xG X) + a0)), some (.int p1), some (.int p2), some (.int p3), some (.int q6), some (.int s9.2), some (.int 0), none, none]) rfl ?_
      refine s_drop (L' := [some (.ref (gh (xG X) + a0)), some (.int p1), some (.int p2), some (.int p3), some (.int q6), some (.int s9.2), some (.int 0), none, none]) ?_ (And.intro rfl (And.intro rfl (And.intro rfl (And.intro rfl (And.intro rfl (And.intro rfl (And.intro rfl trivial)))))))
      refine s_loop1 s9.1 (fun s18 : Mem × Int32 => s18.1) (fun s18 : Mem × Int32 => [some (.ref (gh (xG X) + a0)), some (.int p1), some (.int p2), some (.int p3), some (.int q6), some (.int s9.2), some (.int s18.2), none, none]) (fun x25 : Mem => x25) 133 (fun x25 : Mem => [some (.ref (gh (xG X) + a0)), some (.int p1), some (.int p2), some (.int p3), some (.int q6), some (.int s9.2), none, none, none]) (fun x25 hx26 => ?_) (fun T20 R22 hT21 hR23 s18 hs19 => ?_) (s9.1, 0) Le.rf
      · show S0 X _ x25 133 [some (.ref (gh (xG X) + a0)), some (.int p1), some (.int p2), some (.int p3), some (.int q6), some (.int s9.2), none, none, none] [] _
        have o81 := hx26.ok o15
        refine s_iinc (pc := 133) dX12_lists_133 rfl (v := s9.2 + 1) (congrArg (fun z : Int32 => s9.2 + z) kc_1) (nlt rfl) rfl (L' := [some (.ref (gh (xG X) + a0)), some (.int p1), some (.int p2), some (.int p3), some (.int q6), some (.int (s9.2 + 1)), none, none, none]) rfl ?_
        refine s_bv (fun x82 : Int32 => [some (.ref (gh (xG X) + a0)), some (.int p1), some (.int p2), some (.int p3), some (.int q6), some (.int x82), none, none, none]) (fun x82 => ?_) rfl
        refine s_goto (pc := 136) 14 dX12_lists_136 rfl ?_
        exact s_drop (hT12 (x25, x82) (hs10.tr hx26)) (And.intro rfl (And.intro rfl (And.intro rfl (And.intro rfl (And.intro rfl (And.intro rfl trivial))))))
      · show S0 X _ s18.1 23 [some (.ref (gh (xG X) + a0)), some (.int p1), some (.int p2), some (.int p3), some (.int q6), some (.int s9.2), some (.int s18.2), none, none] [] _
        have o24 := hs19.ok o15
        refine s_iload (pc := 23) dX12_lists_23 rfl ?_
        refine s_iload (pc := 25) dX12_lists_25 rfl ?_
        refine s_icgt (pc := 27) 133 dX12_lists_27 rfl ?_ ?_
        · exact s_drop (hR23 s18.1 hs19) (And.intro rfl (And.intro rfl (And.intro rfl (And.intro rfl (And.intro rfl (And.intro rfl trivial))))))
        · refine s_iconst (pc := 30) 0 dX12_lists_30 kc_0 ?_
          refine s_istore (pc := 31) dX12_lists_31 (nlt rfl) rfl (L' := [some (.ref (gh (xG X) + a0)), some (.int p1), some (.int p2), some (.int p3), some (.int q6), some (.int s9.2), some (.int s18.2), some (.int 0), none]) rfl ?_
          refine s_drop (L' := [some (.ref (gh (xG X) + a0)), some (.int p1), some (.int p2), some (.int p3), some (.int q6), some (.int s9.2), some (.int s18.2), some (.int 0), none]) ?_ (And.intro rfl (And.intro rfl (And.intro rfl (And.intro rfl (And.intro rfl (And.intro rfl (And.intro rfl (And.intro rfl trivial))))))))
          refine s_loop1 s18.1 (fun s27 : Mem × Int32 => s27.1) (fun s27 : Mem × Int32 => [some (.ref (gh (xG X) + a0)), some (.int p1), some (.int p2), some (.int p3), some (.int q6), some (.int s9.2), some (.int s18.2), some (.int s27.2), none]) (fun x34 : Mem => x34) 127 (fun x34 : Mem => [some (.ref (gh (xG X) + a0)), some (.int p1), some (.int p2), some (.int p3), some (.int q6), some (.int s9.2), some (.int s18.2), none, none]) (fun x34 hx35 => ?_) (fun T29 R31 hT30 hR32 s27 hs28 => ?_) (s18.1, 0) Le.rf
          · show S0 X _ x34 127 [some (.ref (gh (xG X) + a0)), some (.int p1), some (.int p2), some (.int p3), some (.int q6), some (.int s9.2), some (.int s18.2), none, none] [] _
            have o79 := hx35.ok o24
            refine s_iinc (pc := 127) dX12_lists_127 rfl (v := s18.2 + 1) (congrArg (fun z : Int32 => s18.2 + z) kc_1) (nlt rfl) rfl (L' := [some (.ref (gh (xG X) + a0)), some (.int p1), some (.int p2), some (.int p3), some (.int q6), some (.int s9.2), some (.int (s18.2 + 1)), none, none]) rfl ?_
            refine s_bv (fun x80 : Int32 => [some (.ref (gh (xG X) + a0)), some (.int p1), some (.int p2), some (.int p3), some (.int q6), some (.int s9.2), some (.int x80), none, none]) (fun x80 => ?_) rfl
            refine s_goto (pc := 130) 23 dX12_lists_130 rfl ?_
            exact s_drop (hT21 (x34, x80) (hs19.tr hx35)) (And.intro rfl (And.intro rfl (And.intro rfl (And.intro rfl (And.intro rfl (And.intro rfl (And.intro rfl trivial)))))))
          · show S0 X _ s27.1 33 [some (.ref (gh (xG X) + a0)), some (.int p1), some (.int p2), some (.int p3), some (.int q6), some (.int s9.2), some (.int s18.2), some (.int s27.2), none] [] _
            have o33 := hs28.ok o24
            refine s_iload (pc := 33) dX12_lists_33 rfl ?_
            refine s_iload (pc := 35) dX12_lists_35 rfl ?_
            refine s_iconst (pc := 37) 1 dX12_lists_37 kc_1 ?_
            refine s_join s27.1 (fun s37 : Int32 => s27.1) 47 (fun s37 : Int32 => [some (.ref (gh (xG X) + a0)), some (.int p1), some (.int p2), some (.int p3), some (.int q6), some (.int s9.2), some (.int s18.2), some (.int s27.2), none]) (fun s37 : Int32 => [.int s37, .int s27.2]) (fun s37 hs38 => ?_) (fun j36 hj39 => ?_)
            · show S0 X _ s27.1 47 [some (.ref (gh (xG X) + a0)), some (.int p1), some (.int p2), some (.int p3), some (.int q6), some (.int s9.2), some (.int s18.2), some (.int s27.2), none] [.int s37, .int s27.2] _
              refine s_icge (pc := 47) 127 dX12_lists_47 rfl ?_ ?_
              · exact s_drop (hR32 s27.1 hs28) (And.intro rfl (And.intro rfl (And.intro rfl (And.intro rfl (And.intro rfl (And.intro rfl (And.intro rfl trivial)))))))
              · refine s_aload_n (pc := 50) 0 dX12_lists_50 rfl rfl ?_
                refine s_iload_n (pc := 51) 1 dX12_lists_51 rfl rfl ?_
                refine s_iload (pc := 52) dX12_lists_52 rfl ?_
                refine s_iload (pc := 54) dX12_lists_54 rfl ?_
                refine s_iload (pc := 56) dX12_lists_56 rfl ?_
                refine s_iload_n (pc := 58) 2 dX12_lists_58 rfl rfl ?_
                refine s_bind (fun q40 hq41 => ?_)
                have hC42 := t_X12_changed (l := xl X) (G := xG X) hq41
                refine s_callV (pc := 59) (As := [.int p1, .int s9.2, .int s18.2, .int s27.2, .int p2]) (st := []) (nlt rfl) (q := (RX12, TX12, 59)) rfl rfl o33 cl_X12_changed wi_X12_changed wl_X12_changed km_X12_177 rfl rfl (nle rfl) (nle rfl) (nle rfl) dX12_lists_59 hC42 ?_
                have h43 := hC42.1 X
                have o44 := h43.ok o33
                show S0 X _ q40.1 62 [some (.ref (gh (xG X) + a0)), some (.int p1), some (.int p2), some (.int p3), some (.int q6), some (.int s9.2), some (.int s18.2), some (.int s27.2), none] [.int q40.2] _
                refine s_istore (pc := 62) dX12_lists_62 (nlt rfl) rfl (L' := [some (.ref (gh (xG X) + a0)), some (.int p1), some (.int p2), some (.int p3), some (.int q6), some (.int s9.2), some (.int s18.2), some (.int s27.2), some (.int q40.2)]) rfl ?_
                refine s_iload (pc := 64) dX12_lists_64 rfl ?_
                refine s_iconst (pc := 66) (-1) dX12_lists_66 kc_m1 ?_
                refine s_join q40.1 (fun s46 : Mem => s46) 121 (fun s46 : Mem => [some (.ref (gh (xG X) + a0)), some (.int p1), some (.int p2), some (.int p3), some (.int q6), some (.int s9.2), some (.int s18.2), some (.int s27.2), none]) (fun s46 : Mem => []) (fun s46 hs47 => ?_) (fun j45 hj48 => ?_)
                · show S0 X _ s46 121 [some (.ref (gh (xG X) + a0)), some (.int p1), some (.int p2), some (.int p3), some (.int q6), some (.int s9.2), some (.int s18.2), some (.int s27.2), none] [] _
                  have o49 := hs47.ok o44
                  refine s_iinc (pc := 121) dX12_lists_121 rfl (v := s27.2 + 1) (congrArg (fun z : Int32 => s27.2 + z) kc_1) (nlt rfl) rfl (L' := [some (.ref (gh (xG X) + a0)), some (.int p1), some (.int p2), some (.int p3), some (.int q6), some (.int s9.2), some (.int s18.2), some (.int (s27.2 + 1)), none]) rfl ?_
                  refine s_bv (fun x50 : Int32 => [some (.ref (gh (xG X) + a0)), some (.int p1), some (.int p2), some (.int p3), some (.int q6), some (.int s9.2), some (.int s18.2), some (.int x50), none]) (fun x50 => ?_) rfl
                  refine s_goto (pc := 124) 33 dX12_lists_124 rfl ?_
                  exact s_drop (hT30 (s46, x50) (hs28.tr (h43.tr hs47))) (And.intro rfl (And.intro rfl (And.intro rfl (And.intro rfl (And.intro rfl (And.intro rfl (And.intro rfl (And.intro rfl trivial))))))))
                · refine s_icne (pc := 67) 73 dX12_lists_67 rfl ?_ ?_
                  · refine s_aload_n (pc := 73) 0 dX12_lists_73 rfl rfl ?_
                    refine s_geto (pc := 74) F_12 9 rfl o44 dX12_lists_74 kf_X12_33 ?_
                    refine s_rvB (fun r51 => ?_)
                    refine s_aload_n (pc := 77) 0 dX12_lists_77 rfl rfl ?_
                    refine s_geti (pc := 78) F_12 11 rfl o44 dX12_lists_78 kf_X12_174 ?_
                    refine s_iload (pc := 81) dX12_lists_81 rfl ?_
                    refine s_grd (fun o52 => ?_)
                    refine s_grd (fun i53 => ?_)
                    refine s_iast (pc := 83) o52 i53 dX12_lists_83 (fun M54 hM55 => ?_)
                    have h56 := le_wI hM55
                    have o57 := h56.ok o44
                    refine s_aload_n (pc := 84) 0 dX12_lists_84 rfl rfl ?_
                    refine s_geto (pc := 85) F_12 10 rfl o57 dX12_lists_85 kf_X12_36 ?_
                    refine s_rvB (fun r58 => ?_)
                    refine s_aload_n (pc := 88) 0 dX12_lists_88 rfl rfl ?_
                    refine s_geti (pc := 89) F_12 11 rfl o57 dX12_lists_89 kf_X12_174 ?_
                    refine s_iload_n (pc := 92) 3 dX12_lists_92 rfl rfl ?_
                    refine s_join M54 (fun s60 : Mem × Int32 => s60.1) 110 (fun s60 : Mem × Int32 => [some (.ref (gh (xG X) + a0)), some (.int p1), some (.int p2), some (.int p3), some (.int q6), some (.int s9.2), some (.int s18.2), some (.int s27.2), none]) (fun s60 : Mem × Int32 => [.int s60.2, .int (mI M54 a0 11), .ref (gh (xG X) + r58)]) (fun s60 hs61 => ?_) (fun j59 hj62 => ?_)
                    · show S0 X _ s60.1 110 [some (.ref (gh (xG X) + a0)), some (.int p1), some (.int p2), some (.int p3), some (.int q6), some (.int s9.2), some (.int s18.2), some (.int s27.2), none] [.int s60.2, .int (mI M54 a0 11), .ref (gh (xG X) + r58)] _
                      have o63 := hs61.ok o57
                      refine s_grd (fun o64 => ?_)
                      refine s_grd (fun i65 => ?_)
                      refine s_iast (pc := 110) o64 i65 dX12_lists_110 (fun M66 hM67 => ?_)
                      have h68 := le_wI hM67
                      have o69 := h68.ok o63
                      refine s_aload_n (pc := 111) 0 dX12_lists_111 rfl rfl ?_
                      refine s_dup (pc := 112) dX12_lists_112 rfl ?_
                      refine s_geti (pc := 113) F_12 11 rfl o69 dX12_lists_113 kf_X12_174 ?_
                      refine s_iconst (pc := 116) 1 dX12_lists_116 kc_1 ?_
                      refine s_iadd (pc := 117) dX12_lists_117 ?_
                      refine s_puti (pc := 118) F_12 11 rfl o69 rfl rfl rfl dX12_lists_118 kf_X12_174 (fun M70 hM71 => ?_)
                      have h72 := le_wI hM71
                      have o73 := h72.ok o69
                      exact s_drop (hj48 M70 (h56.tr (hs61.tr (h68.tr h72)))) (And.intro rfl (And.intro rfl (And.intro rfl (And.intro rfl (And.intro rfl (And.intro rfl (And.intro rfl (And.intro rfl trivial))))))))
                    · refine s_ifeq (pc := 93) 109 dX12_lists_93 rfl ?_ ?_
                      · refine s_iconst (pc := 109) 0 dX12_lists_109 kc_0 ?_
                        exact s_drop (hj62 (M54, 0) Le.rf) (And.intro rfl (And.intro rfl (And.intro rfl (And.intro rfl (And.intro rfl (And.intro rfl (And.intro rfl (And.intro rfl trivial))))))))
                      · refine s_aload_n (pc := 96) 0 dX12_lists_96 rfl rfl ?_
                        refine s_iload_n (pc := 97) 1 dX12_lists_97 rfl rfl ?_
                        refine s_iload (pc := 98) dX12_lists_98 rfl ?_
                        refine s_iload (pc := 100) dX12_lists_100 rfl ?_
                        refine s_iload_n (pc := 102) 2 dX12_lists_102 rfl rfl ?_
                        refine s_bind (fun q74 hq75 => ?_)
                        have hC76 := t_X12_weighs (l := xl X) (G := xG X) hq75
                        refine s_callV (pc := 103) (As := [.int p1, .int s9.2, .int s18.2, .int p2]) (st := [.int (mI M54 a0 11), .ref (gh (xG X) + r58)]) (nlt rfl) (q := (RX12, TX12, 59)) rfl rfl o57 cl_X12_weighs wi_X12_weighs wl_X12_weighs km_X12_181 rfl rfl (nle rfl) (nle rfl) (nle rfl) dX12_lists_103 hC76 ?_
                        have h77 := hC76.1 X
                        have o78 := h77.ok o57
                        show S0 X _ q74.1 106 [some (.ref (gh (xG X) + a0)), some (.int p1), some (.int p2), some (.int p3), some (.int q6), some (.int s9.2), some (.int s18.2), some (.int s27.2), some (.int q40.2)] [.int q74.2, .int (mI M54 a0 11), .ref (gh (xG X) + r58)] _
                        refine s_goto (pc := 106) 110 dX12_lists_106 rfl ?_
                        exact s_drop (hj62 (q74.1, q74.2) h77) (And.intro rfl (And.intro rfl (And.intro rfl (And.intro rfl (And.intro rfl (And.intro rfl (And.intro rfl (And.intro rfl trivial))))))))
                  · refine s_goto (pc := 70) 121 dX12_lists_70 rfl ?_
                    exact s_drop (hj48 q40.1 Le.rf) (And.intro rfl (And.intro rfl (And.intro rfl (And.intro rfl (And.intro rfl (And.intro rfl (And.intro rfl (And.intro rfl trivial))))))))
            · refine s_icne (pc := 38) 46 dX12_lists_38 rfl ?_ ?_
              · refine s_iconst (pc := 46) 1 dX12_lists_46 kc_1 ?_
                exact s_drop (hj39 1 Le.rf) (And.intro rfl (And.intro rfl (And.intro rfl (And.intro rfl (And.intro rfl (And.intro rfl (And.intro rfl (And.intro rfl trivial))))))))
              · refine s_bipush (pc := 41) 6 dX12_lists_41 kb_6 ?_
                refine s_goto (pc := 43) 47 dX12_lists_43 rfl ?_
                exact s_drop (hj39 6 Le.rf) (And.intro rfl (And.intro rfl (And.intro rfl (And.intro rfl (And.intro rfl (And.intro rfl (And.intro rfl (And.intro rfl trivial))))))))
set_option maxRecDepth 100000 in
set_option maxHeartbeats 8000000 in
noncomputable def f_X12_readOne (M : Mem) (a0 : Nat) : Option Mem :=
  grd (okO M 12 a0) (if (mI M a0 14) = 0 then (Option.bind (f_X12_readClause M a0) (fun q2 => some q2)) else (Option.bind (f_X12_readOrder M a0) (fun q7 => some q7)))
abbrev Y_X12_readOne : Sta := (RX12, "readOne", cX12_readOne, 1, none, 207)
set_option maxRecDepth 100000 in
set_option maxHeartbeats 8000000 in
theorem t_X12_readOne {l : Launch} {G : Gh} {M : Mem} {a0 : Nat} {q : Mem} (h : f_X12_readOne M a0 = some q) : Ctr l G yX12_readOne Y_X12_readOne M [.ref (gh G + a0)] q (none) := by
  refine Ctr.of (Y := Y_X12_readOne) (L := [some (.ref (gh G + a0))]) (t := Option.bind (f_X12_readOne M a0) (fun q => some (q, (none : Option Value)))) (by decide) rfl rfl (nle rfl) (Lof_in 0 _ rfl) (fun X hG hl => ?_) (by rw [h]; rfl)
  subst hG
  subst hl
  unfold f_X12_readOne
  refine s_aload_n (pc := 0) 0 dX12_readOne_0 rfl rfl ?_
  refine s_grd (fun o1 => ?_)
  refine s_geti (pc := 1) F_12 14 rfl o1 dX12_readOne_1 kf_X12_249 ?_
  refine s_ifeq (pc := 4) 14 dX12_readOne_4 rfl ?_ ?_
  · refine s_aload_n (pc := 14) 0 dX12_readOne_14 rfl rfl ?_
    refine s_bind (fun q2 hq3 => ?_)
    have hC4 := t_X12_readClause (l := xl X) (G := xG X) hq3
    refine s_callV (pc := 15) (As := []) (st := []) (nlt rfl) (q := (RX12, TX12, 59)) rfl rfl o1 cl_X12_readClause wi_X12_readClause wl_X12_readClause km_X12_269 rfl rfl (nle rfl) (nle rfl) (nle rfl) dX12_readOne_15 hC4 ?_
    have h5 := hC4.1 X
    have o6 := h5.ok o1
    show S0 X _ q2 18 [some (.ref (gh (xG X) + a0))] [] _
    exact s_vret rfl dX12_readOne_18
  · refine s_aload_n (pc := 7) 0 dX12_readOne_7 rfl rfl ?_
    refine s_bind (fun q7 hq8 => ?_)
    have hC9 := t_X12_readOrder (l := xl X) (G := xG X) hq8
    refine s_callV (pc := 8) (As := []) (st := []) (nlt rfl) (q := (RX12, TX12, 59)) rfl rfl o1 cl_X12_readOrder wi_X12_readOrder wl_X12_readOrder km_X12_266 rfl rfl (nle rfl) (nle rfl) (nle rfl) dX12_readOne_8 hC9 ?_
    have h10 := hC9.1 X
    have o11 := h10.ok o1
    show S0 X _ q7 11 [some (.ref (gh (xG X) + a0))] [] _
    refine s_goto (pc := 11) 18 dX12_readOne_11 rfl ?_
    exact s_vret rfl dX12_readOne_18
set_option maxRecDepth 100000 in
set_option maxHeartbeats 8000000 in
noncomputable def f_X7_lawClause (M : Mem) (a0 : Nat) : Option (Mem × Int32) :=
  grd (okO M 7 a0) (bv (fun (s3 : Unit) => bv ((mI M a0 8) - 258 : Int32) (fun x6 => Option.bind (mR M a0 3) (fun r7 => grd (okO M 9 r7) (Option.bind (f_X9_open M r7 x6) (fun q9 => Option.bind (f_X7_next q9 a0) (fun q14 => bv (fun (s20 : Mem) => Option.bind (f_X7_condition s20 a0) (fun q24 => if q24.2 = 0 then (some (q24.1, 0)) else (some (q24.1, 1)))) (fun j19 => if x6 = 0 then (Option.bind (f_X7_sumFor q14 a0 3) (fun q29 => if q29.2 = 0 then (some (q29.1, 0)) else (j19 q29.1))) else (j19 q14)))))))) (fun j2 => if (mI M a0 8) = 258 then (j2 ()) else (if (mI M a0 8) = 259 then (j2 ()) else (Option.bind (f_X7_fail M a0) (fun q34 => grd (bl q34.2) (some (q34.1, q34.2)))))))
abbrev Y_X7_lawClause : Sta := (RX7, "lawClause", cX7_lawClause, 2, (some .boolean), 207)
set_option maxRecDepth 100000 in
set_option maxHeartbeats 8000000 in
theorem t_X7_lawClause {l : Launch} {G : Gh} {M : Mem} {a0 : Nat} {q : Mem × Int32} (h : f_X7_lawClause M a0 = some q) : Ctr l G yX7_lawClause Y_X7_lawClause M [.ref (gh G + a0)] q.1 (some (.int q.2)) := by
  refine Ctr.of (Y := Y_X7_lawClause) (L := [some (.ref (gh G + a0)), none]) (t := Option.bind (f_X7_lawClause M a0) (fun q => some (q.1, some (.int q.2)))) (by decide) rfl rfl (nle rfl) (Lof_in 1 _ rfl) (fun X hG hl => ?_) (by rw [h]; rfl)
  subst hG
  subst hl
  unfold f_X7_lawClause
  refine s_aload_n (pc := 0) 0 dX7_lawClause_0 rfl rfl ?_
  refine s_grd (fun o1 => ?_)
  refine s_geti (pc := 1) F_7 8 rfl o1 dX7_lawClause_1 kf_X7_66 ?_
  refine s_sipush (pc := 4) 258 dX7_lawClause_4 ks_258 ?_
  refine s_join M (fun s3 : Unit => M) 25 (fun s3 : Unit => [some (.ref (gh (xG X) + a0)), none]) (fun s3 : Unit => []) (fun s3 hs4 => ?_) (fun j2 hj5 => ?_)
  · show S0 X _ M 25 [some (.ref (gh (xG X) + a0)), none] [] _
    refine s_aload_n (pc := 25) 0 dX7_lawClause_25 rfl rfl ?_
    refine s_geti (pc := 26) F_7 8 rfl o1 dX7_lawClause_26 kf_X7_66 ?_
    refine s_sipush (pc := 29) 258 dX7_lawClause_29 ks_258 ?_
    refine s_isub (pc := 32) dX7_lawClause_32 ?_
    refine s_istore_n (pc := 33) 1 dX7_lawClause_33 rfl (nlt rfl) rfl (L' := [some (.ref (gh (xG X) + a0)), some (.int ((mI M a0 8) - 258))]) rfl ?_
    refine s_bv (fun x6 : Int32 => [some (.ref (gh (xG X) + a0)), some (.int x6)]) (fun x6 => ?_) rfl
    refine s_aload_n (pc := 34) 0 dX7_lawClause_34 rfl rfl ?_
    refine s_geto (pc := 35) F_7 3 rfl o1 dX7_lawClause_35 kf_X7_26 ?_
    refine s_rvB (fun r7 => ?_)
    refine s_iload_n (pc := 38) 1 dX7_lawClause_38 rfl rfl ?_
    refine s_grd (fun o8 => ?_)
    refine s_bind (fun q9 hq10 => ?_)
    have hC11 := t_X9_open (l := xl X) (G := xG X) hq10
    refine s_callV (pc := 39) (As := [.int x6]) (st := []) (nlt rfl) (q := (RX9, TX9, 5)) rfl rfl o8 cl_X9_open wi_X9_open wl_X9_open km_X7_110 rfl rfl (nle rfl) (nle rfl) (nle rfl) dX7_lawClause_39 hC11 ?_
    have h12 := hC11.1 X
    have o13 := h12.ok o1
    show S0 X _ q9 42 [some (.ref (gh (xG X) + a0)), some (.int x6)] [] _
    refine s_aload_n (pc := 42) 0 dX7_lawClause_42 rfl rfl ?_
    refine s_bind (fun q14 hq15 => ?_)
    have hC16 := t_X7_next (l := xl X) (G := xG X) hq15
    refine s_callV (pc := 43) (As := []) (st := []) (nlt rfl) (q := (RX7, TX7, 10)) rfl rfl o13 cl_X7_next wi_X7_next wl_X7_next km_X7_79 rfl rfl (nle rfl) (nle rfl) (nle rfl) dX7_lawClause_43 hC16 ?_
    have h17 := hC16.1 X
    have o18 := h17.ok o13
    show S0 X _ q14 46 [some (.ref (gh (xG X) + a0)), some (.int x6)] [] _
    refine s_iload_n (pc := 46) 1 dX7_lawClause_46 rfl rfl ?_
    refine s_join q14 (fun s20 : Mem => s20) 58 (fun s20 : Mem => [some (.ref (gh (xG X) + a0)), none]) (fun s20 : Mem => []) (fun s20 hs21 => ?_) (fun j19 hj22 => ?_)
    · show S0 X _ s20 58 [some (.ref (gh (xG X) + a0)), none] [] _
      have o23 := hs21.ok o18
      refine s_aload_n (pc := 58) 0 dX7_lawClause_58 rfl rfl ?_
      refine s_bind (fun q24 hq25 => ?_)
      have hC26 := t_X7_condition (l := xl X) (G := xG X) hq25
      refine s_callV (pc := 59) (As := []) (st := []) (nlt rfl) (q := (RX7, TX7, 10)) rfl rfl o23 cl_X7_condition wi_X7_condition wl_X7_condition km_X7_117 rfl rfl (nle rfl) (nle rfl) (nle rfl) dX7_lawClause_59 hC26 ?_
      have h27 := hC26.1 X
      have o28 := h27.ok o23
      show S0 X _ q24.1 62 [some (.ref (gh (xG X) + a0)), none] [.int q24.2] _
      refine s_ifeq (pc := 62) 69 dX7_lawClause_62 rfl ?_ ?_
      · refine s_iconst (pc := 69) 0 dX7_lawClause_69 kc_0 ?_
        exact s_zret rfl rfl dX7_lawClause_70
      · refine s_iconst (pc := 65) 1 dX7_lawClause_65 kc_1 ?_
        refine s_goto (pc := 66) 70 dX7_lawClause_66 rfl ?_
        exact s_zret rfl rfl dX7_lawClause_70
    · refine s_ifne (pc := 47) 58 dX7_lawClause_47 rfl ?_ ?_
      · exact s_drop (hj22 q14 Le.rf) (And.intro rfl trivial)
      · refine s_aload_n (pc := 50) 0 dX7_lawClause_50 rfl rfl ?_
        refine s_iconst (pc := 51) 3 dX7_lawClause_51 kc_3 ?_
        refine s_bind (fun q29 hq30 => ?_)
        have hC31 := t_X7_sumFor (l := xl X) (G := xG X) hq30
        refine s_callV (pc := 52) (As := [.int 3]) (st := []) (nlt rfl) (q := (RX7, TX7, 10)) rfl rfl o18 cl_X7_sumFor wi_X7_sumFor wl_X7_sumFor km_X7_114 rfl rfl (nle rfl) (nle rfl) (nle rfl) dX7_lawClause_52 hC31 ?_
        have h32 := hC31.1 X
        have o33 := h32.ok o18
        show S0 X _ q29.1 55 [some (.ref (gh (xG X) + a0)), some (.int x6)] [.int q29.2] _
        refine s_ifeq (pc := 55) 69 dX7_lawClause_55 rfl ?_ ?_
        · refine s_iconst (pc := 69) 0 dX7_lawClause_69 kc_0 ?_
          exact s_zret rfl rfl dX7_lawClause_70
        · exact s_drop (hj22 q29.1 h32) (And.intro rfl trivial)
  · refine s_iceq (pc := 7) 25 dX7_lawClause_7 rfl ?_ ?_
    · exact s_drop (hj5 () Le.rf) (And.intro rfl trivial)
    · refine s_aload_n (pc := 10) 0 dX7_lawClause_10 rfl rfl ?_
      refine s_geti (pc := 11) F_7 8 rfl o1 dX7_lawClause_11 kf_X7_66 ?_
      refine s_sipush (pc := 14) 259 dX7_lawClause_14 ks_259 ?_
      refine s_iceq (pc := 17) 25 dX7_lawClause_17 rfl ?_ ?_
      · exact s_drop (hj5 () Le.rf) (And.intro rfl trivial)
      · refine s_aload_n (pc := 20) 0 dX7_lawClause_20 rfl rfl ?_
        refine s_bind (fun q34 hq35 => ?_)
        have hC36 := t_X7_fail (l := xl X) (G := xG X) hq35
        refine s_callV (pc := 21) (As := []) (st := []) (nlt rfl) (q := (RX7, TX7, 10)) rfl rfl o1 cl_X7_fail wi_X7_fail wl_X7_fail km_X7_76 rfl rfl (nle rfl) (nle rfl) (nle rfl) dX7_lawClause_21 hC36 ?_
        have h37 := hC36.1 X
        have o38 := h37.ok o1
        show S0 X _ q34.1 24 [some (.ref (gh (xG X) + a0)), none] [.int q34.2] _
        refine s_grd (fun g39 => ?_)
        exact s_zret rfl g39 dX7_lawClause_24
set_option maxRecDepth 100000 in
set_option maxHeartbeats 8000000 in
noncomputable def f_X7_orderClause (M : Mem) (a0 : Nat) : Option (Mem × Int32) :=
  grd (okO M 7 a0) (bv (fun (s3 : Int32) => bv (fun (s7 : Unit) => Option.bind (mR M a0 3) (fun r10 => grd (okO M 9 r10) (Option.bind (f_X9_open M r10 5) (fun q12 => Option.bind (f_X7_next q12 a0) (fun q17 => Option.bind (f_X7_sumFor q17 a0 3) (fun q22 => if q22.2 = 0 then (some (q22.1, 0)) else (bv (fun (s28 : Mem) => bv (fun (s33 : Mem) => Option.bind (f_X7_condition s33 a0) (fun q37 => grd (bl q37.2) (some (q37.1, q37.2)))) (fun j32 => if (mI s28 a0 8) = 261 then (Option.bind (f_X7_next s28 a0) (fun q43 => bv (fun (s49 : Unit) => Option.bind (f_X7_fail q43 a0) (fun q52 => grd (bl q52.2) (some (q52.1, q52.2)))) (fun j48 => if (mI q43 a0 8) < 1001 then (j48 ()) else (if (mI q43 a0 8) ≤ 1020 then (Option.bind (mR q43 a0 3) (fun r58 => grd (okO q43 9 r58) (Option.bind (f_X9_set q43 r58 1 ((mI q43 a0 8) - 1000)) (fun q60 => Option.bind (f_X7_next q60 a0) (fun q65 => j32 q65))))) else (j48 ()))))) else (j32 s28))) (fun j27 => if s3 = 0 then (j27 q22.1) else (Option.bind (f_X7_how q22.1 a0) (fun q70 => if q70.2 = 0 then (some (q70.1, 0)) else (j27 q70.1))))))))))) (fun j6 => if s3 = 0 then (if (mI M a0 8) = 278 then (j6 ()) else (Option.bind (f_X7_fail M a0) (fun q75 => grd (bl q75.2) (some (q75.1, q75.2))))) else (j6 ()))) (fun j2 => if (mI M a0 8) = 260 then (j2 1) else (j2 0)))
abbrev Y_X7_orderClause : Sta := (RX7, "orderClause", cX7_orderClause, 2, (some .boolean), 207)
set_option maxRecDepth 100000 in
set_option maxHeartbeats 8000000 in
theorem t_X7_orderClause {l : Launch} {G : Gh} {M : Mem} {a0 : Nat} {q : Mem × Int32} (h : f_X7_orderClause M a0 = some q) : Ctr l G yX7_orderClause Y_X7_orderClause M [.ref (gh G + a0)] q.1 (some (.int q.2)) := by
  refine Ctr.of (Y := Y_X7_orderClause) (L := [some (.ref (gh G + a0)), none]) (t := Option.bind (f_X7_orderClause M a0) (fun q => some (q.1, some (.int q.2)))) (by decide) rfl rfl (nle rfl) (Lof_in 1 _ rfl) (fun X hG hl => ?_) (by rw [h]; rfl)
  subst hG
  subst hl
  unfold f_X7_orderClause
  refine s_aload_n (pc := 0) 0 dX7_orderClause_0 rfl rfl ?_
  refine s_grd (fun o1 => ?_)
  refine s_geti (pc := 1) F_7 8 rfl o1 dX7_orderClause_1 kf_X7_66 ?_
  refine s_sipush (pc := 4) 260 dX7_orderClause_4 ks_260 ?_
  refine s_join M (fun s3 : Int32 => M) 15 (fun s3 : Int32 => [some (.ref (gh (xG X) + a0)), none]) (fun s3 : Int32 => [.int s3]) (fun s3 hs4 => ?_) (fun j2 hj5 => ?_)
  · show S0 X _ M 15 [some (.ref (gh (xG X) + a0)), none] [.int s3] _
    refine s_istore_n (pc := 15) 1 dX7_orderClause_15 rfl (nlt rfl) rfl (L' := [some (.ref (gh (xG X) + a0)), some (.int s3)]) rfl ?_
    refine s_iload_n (pc := 16) 1 dX7_orderClause_16 rfl rfl ?_
    refine s_join M (fun s7 : Unit => M) 35 (fun s7 : Unit => [some (.ref (gh (xG X) + a0)), some (.int s3)]) (fun s7 : Unit => []) (fun s7 hs8 => ?_) (fun j6 hj9 => ?_)
    · show S0 X _ M 35 [some (.ref (gh (xG X) + a0)), some (.int s3)] [] _
      refine s_aload_n (pc := 35) 0 dX7_orderClause_35 rfl rfl ?_
      refine s_geto (pc := 36) F_7 3 rfl o1 dX7_orderClause_36 kf_X7_26 ?_
      refine s_rvB (fun r10 => ?_)
      refine s_iconst (pc := 39) 5 dX7_orderClause_39 kc_5 ?_
      refine s_grd (fun o11 => ?_)
      refine s_bind (fun q12 hq13 => ?_)
      have hC14 := t_X9_open (l := xl X) (G := xG X) hq13
      refine s_callV (pc := 40) (As := [.int 5]) (st := []) (nlt rfl) (q := (RX9, TX9, 5)) rfl rfl o11 cl_X9_open wi_X9_open wl_X9_open km_X7_110 rfl rfl (nle rfl) (nle rfl) (nle rfl) dX7_orderClause_40 hC14 ?_
      have h15 := hC14.1 X
      have o16 := h15.ok o1
      show S0 X _ q12 43 [some (.ref (gh (xG X) + a0)), some (.int s3)] [] _
      refine s_aload_n (pc := 43) 0 dX7_orderClause_43 rfl rfl ?_
      refine s_bind (fun q17 hq18 => ?_)
      have hC19 := t_X7_next (l := xl X) (G := xG X) hq18
      refine s_callV (pc := 44) (As := []) (st := []) (nlt rfl) (q := (RX7, TX7, 10)) rfl rfl o16 cl_X7_next wi_X7_next wl_X7_next km_X7_79 rfl rfl (nle rfl) (nle rfl) (nle rfl) dX7_orderClause_44 hC19 ?_
      have h20 := hC19.1 X
      have o21 := h20.ok o16
      show S0 X _ q17 47 [some (.ref (gh (xG X) + a0)), some (.int s3)] [] _
      refine s_aload_n (pc := 47) 0 dX7_orderClause_47 rfl rfl ?_
      refine s_iconst (pc := 48) 3 dX7_orderClause_48 kc_3 ?_
      refine s_bind (fun q22 hq23 => ?_)
      have hC24 := t_X7_sumFor (l := xl X) (G := xG X) hq23
      refine s_callV (pc := 49) (As := [.int 3]) (st := []) (nlt rfl) (q := (RX7, TX7, 10)) rfl rfl o21 cl_X7_sumFor wi_X7_sumFor wl_X7_sumFor km_X7_114 rfl rfl (nle rfl) (nle rfl) (nle rfl) dX7_orderClause_49 hC24 ?_
      have h25 := hC24.1 X
      have o26 := h25.ok o21
      show S0 X _ q22.1 52 [some (.ref (gh (xG X) + a0)), some (.int s3)] [.int q22.2] _
      refine s_ifeq (pc := 52) 66 dX7_orderClause_52 rfl ?_ ?_
      · refine s_iconst (pc := 66) 0 dX7_orderClause_66 kc_0 ?_
        exact s_zret rfl rfl dX7_orderClause_67
      · refine s_iload_n (pc := 55) 1 dX7_orderClause_55 rfl rfl ?_
        refine s_join q22.1 (fun s28 : Mem => s28) 68 (fun s28 : Mem => [some (.ref (gh (xG X) + a0)), none]) (fun s28 : Mem => []) (fun s28 hs29 => ?_) (fun j27 hj30 => ?_)
        · show S0 X _ s28 68 [some (.ref (gh (xG X) + a0)), none] [] _
          have o31 := hs29.ok o26
          refine s_aload_n (pc := 68) 0 dX7_orderClause_68 rfl rfl ?_
          refine s_geti (pc := 69) F_7 8 rfl o31 dX7_orderClause_69 kf_X7_66 ?_
          refine s_sipush (pc := 72) 261 dX7_orderClause_72 ks_261 ?_
          refine s_join s28 (fun s33 : Mem => s33) 127 (fun s33 : Mem => [some (.ref (gh (xG X) + a0)), none]) (fun s33 : Mem => []) (fun s33 hs34 => ?_) (fun j32 hj35 => ?_)
          · show S0 X _ s33 127 [some (.ref (gh (xG X) + a0)), none] [] _
            have o36 := hs34.ok o31
            refine s_aload_n (pc := 127) 0 dX7_orderClause_127 rfl rfl ?_
            refine s_bind (fun q37 hq38 => ?_)
            have hC39 := t_X7_condition (l := xl X) (G := xG X) hq38
            refine s_callV (pc := 128) (As := []) (st := []) (nlt rfl) (q := (RX7, TX7, 10)) rfl rfl o36 cl_X7_condition wi_X7_condition wl_X7_condition km_X7_117 rfl rfl (nle rfl) (nle rfl) (nle rfl) dX7_orderClause_128 hC39 ?_
            have h40 := hC39.1 X
            have o41 := h40.ok o36
            show S0 X _ q37.1 131 [some (.ref (gh (xG X) + a0)), none] [.int q37.2] _
            refine s_grd (fun g42 => ?_)
            exact s_zret rfl g42 dX7_orderClause_131
          · refine s_icne (pc := 75) 127 dX7_orderClause_75 rfl ?_ ?_
            · exact s_drop (hj35 s28 Le.rf) (And.intro rfl trivial)
            · refine s_aload_n (pc := 78) 0 dX7_orderClause_78 rfl rfl ?_
              refine s_bind (fun q43 hq44 => ?_)
              have hC45 := t_X7_next (l := xl X) (G := xG X) hq44
              refine s_callV (pc := 79) (As := []) (st := []) (nlt rfl) (q := (RX7, TX7, 10)) rfl rfl o31 cl_X7_next wi_X7_next wl_X7_next km_X7_79 rfl rfl (nle rfl) (nle rfl) (nle rfl) dX7_orderClause_79 hC45 ?_
              have h46 := hC45.1 X
              have o47 := h46.ok o31
              show S0 X _ q43 82 [some (.ref (gh (xG X) + a0)), none] [] _
              refine s_aload_n (pc := 82) 0 dX7_orderClause_82 rfl rfl ?_
              refine s_geti (pc := 83) F_7 8 rfl o47 dX7_orderClause_83 kf_X7_66 ?_
              refine s_sipush (pc := 86) 1001 dX7_orderClause_86 ks_1001 ?_
              refine s_join q43 (fun s49 : Unit => q43) 102 (fun s49 : Unit => [some (.ref (gh (xG X) + a0)), none]) (fun s49 : Unit => []) (fun s49 hs50 => ?_) (fun j48 hj51 => ?_)
              · show S0 X _ q43 102 [some (.ref (gh (xG X) + a0)), none] [] _
                refine s_aload_n (pc := 102) 0 dX7_orderClause_102 rfl rfl ?_
                refine s_bind (fun q52 hq53 => ?_)
                have hC54 := t_X7_fail (l := xl X) (G := xG X) hq53
                refine s_callV (pc := 103) (As := []) (st := []) (nlt rfl) (q := (RX7, TX7, 10)) rfl rfl o47 cl_X7_fail wi_X7_fail wl_X7_fail km_X7_76 rfl rfl (nle rfl) (nle rfl) (nle rfl) dX7_orderClause_103 hC54 ?_
                have h55 := hC54.1 X
                have o56 := h55.ok o47
                show S0 X _ q52.1 106 [some (.ref (gh (xG X) + a0)), none] [.int q52.2] _
                refine s_grd (fun g57 => ?_)
                exact s_zret rfl g57 dX7_orderClause_106
              · refine s_iclt (pc := 89) 102 dX7_orderClause_89 rfl ?_ ?_
                · exact s_drop (hj51 () Le.rf) (And.intro rfl trivial)
                · refine s_aload_n (pc := 92) 0 dX7_orderClause_92 rfl rfl ?_
                  refine s_geti (pc := 93) F_7 8 rfl o47 dX7_orderClause_93 kf_X7_66 ?_
                  refine s_sipush (pc := 96) 1020 dX7_orderClause_96 ks_1020 ?_
                  refine s_icle (pc := 99) 107 dX7_orderClause_99 rfl ?_ ?_
                  · refine s_aload_n (pc := 107) 0 dX7_orderClause_107 rfl rfl ?_
                    refine s_geto (pc := 108) F_7 3 rfl o47 dX7_orderClause_108 kf_X7_26 ?_
                    refine s_rvB (fun r58 => ?_)
                    refine s_iconst (pc := 111) 1 dX7_orderClause_111 kc_1 ?_
                    refine s_aload_n (pc := 112) 0 dX7_orderClause_112 rfl rfl ?_
                    refine s_geti (pc := 113) F_7 8 rfl o47 dX7_orderClause_113 kf_X7_66 ?_
                    refine s_sipush (pc := 116) 1000 dX7_orderClause_116 ks_1000 ?_
                    refine s_isub (pc := 119) dX7_orderClause_119 ?_
                    refine s_grd (fun o59 => ?_)
                    refine s_bind (fun q60 hq61 => ?_)
                    have hC62 := t_X9_set (l := xl X) (G := xG X) hq61
                    refine s_callV (pc := 120) (As := [.int 1, .int ((mI q43 a0 8) - 1000)]) (st := []) (nlt rfl) (q := (RX9, TX9, 5)) rfl rfl o59 cl_X9_set wi_X9_set wl_X9_set km_X7_123 rfl rfl (nle rfl) (nle rfl) (nle rfl) dX7_orderClause_120 hC62 ?_
                    have h63 := hC62.1 X
                    have o64 := h63.ok o47
                    show S0 X _ q60 123 [some (.ref (gh (xG X) + a0)), none] [] _
                    refine s_aload_n (pc := 123) 0 dX7_orderClause_123 rfl rfl ?_
                    refine s_bind (fun q65 hq66 => ?_)
                    have hC67 := t_X7_next (l := xl X) (G := xG X) hq66
                    refine s_callV (pc := 124) (As := []) (st := []) (nlt rfl) (q := (RX7, TX7, 10)) rfl rfl o64 cl_X7_next wi_X7_next wl_X7_next km_X7_79 rfl rfl (nle rfl) (nle rfl) (nle rfl) dX7_orderClause_124 hC67 ?_
                    have h68 := hC67.1 X
                    have o69 := h68.ok o64
                    show S0 X _ q65 127 [some (.ref (gh (xG X) + a0)), none] [] _
                    exact s_drop (hj35 q65 (h46.tr (h63.tr h68))) (And.intro rfl trivial)
                  · exact s_drop (hj51 () Le.rf) (And.intro rfl trivial)
        · refine s_ifeq (pc := 56) 68 dX7_orderClause_56 rfl ?_ ?_
          · exact s_drop (hj30 q22.1 Le.rf) (And.intro rfl trivial)
          · refine s_aload_n (pc := 59) 0 dX7_orderClause_59 rfl rfl ?_
            refine s_bind (fun q70 hq71 => ?_)
            have hC72 := t_X7_how (l := xl X) (G := xG X) hq71
            refine s_callV (pc := 60) (As := []) (st := []) (nlt rfl) (q := (RX7, TX7, 10)) rfl rfl o26 cl_X7_how wi_X7_how wl_X7_how km_X7_120 rfl rfl (nle rfl) (nle rfl) (nle rfl) dX7_orderClause_60 hC72 ?_
            have h73 := hC72.1 X
            have o74 := h73.ok o26
            show S0 X _ q70.1 63 [some (.ref (gh (xG X) + a0)), some (.int s3)] [.int q70.2] _
            refine s_ifne (pc := 63) 68 dX7_orderClause_63 rfl ?_ ?_
            · exact s_drop (hj30 q70.1 h73) (And.intro rfl trivial)
            · refine s_iconst (pc := 66) 0 dX7_orderClause_66 kc_0 ?_
              exact s_zret rfl rfl dX7_orderClause_67
    · refine s_ifne (pc := 17) 35 dX7_orderClause_17 rfl ?_ ?_
      · exact s_drop (hj9 () Le.rf) (And.intro rfl (And.intro rfl trivial))
      · refine s_aload_n (pc := 20) 0 dX7_orderClause_20 rfl rfl ?_
        refine s_geti (pc := 21) F_7 8 rfl o1 dX7_orderClause_21 kf_X7_66 ?_
        refine s_sipush (pc := 24) 278 dX7_orderClause_24 ks_278 ?_
        refine s_iceq (pc := 27) 35 dX7_orderClause_27 rfl ?_ ?_
        · exact s_drop (hj9 () Le.rf) (And.intro rfl (And.intro rfl trivial))
        · refine s_aload_n (pc := 30) 0 dX7_orderClause_30 rfl rfl ?_
          refine s_bind (fun q75 hq76 => ?_)
          have hC77 := t_X7_fail (l := xl X) (G := xG X) hq76
          refine s_callV (pc := 31) (As := []) (st := []) (nlt rfl) (q := (RX7, TX7, 10)) rfl rfl o1 cl_X7_fail wi_X7_fail wl_X7_fail km_X7_76 rfl rfl (nle rfl) (nle rfl) (nle rfl) dX7_orderClause_31 hC77 ?_
          have h78 := hC77.1 X
          have o79 := h78.ok o1
          show S0 X _ q75.1 34 [some (.ref (gh (xG X) + a0)), some (.int s3)] [.int q75.2] _
          refine s_grd (fun g80 => ?_)
          exact s_zret rfl g80 dX7_orderClause_34
  · refine s_icne (pc := 7) 14 dX7_orderClause_7 rfl ?_ ?_
    · refine s_iconst (pc := 14) 0 dX7_orderClause_14 kc_0 ?_
      exact s_drop (hj5 0 Le.rf) (And.intro rfl trivial)
    · refine s_iconst (pc := 10) 1 dX7_orderClause_10 kc_1 ?_
      refine s_goto (pc := 11) 15 dX7_orderClause_11 rfl ?_
      exact s_drop (hj5 1 Le.rf) (And.intro rfl trivial)
set_option maxRecDepth 100000 in
set_option maxHeartbeats 8000000 in
noncomputable def f_X12_born (M : Mem) (a0 : Nat) (p1 : Int32) (p2 : Int32) (p3 : Int32) (p4 : Int32) : Option (Mem × Int32) :=
  grd (okO M 12 a0) (Option.bind (f_X12_bears M a0 p1 p2 p3 p4) (fun q2 => if 0 ≤ q2.2 then (Option.bind (f_X12_good q2.1 a0 q2.2) (fun q7 => some (q7.1, q7.2))) else (Option.bind (f_X12_refuses q2.1 a0 q2.2) (fun q12 => some (q12.1, q12.2)))))
abbrev Y_X12_born : Sta := (RX12, "born", cX12_born, 6, (some .int), 208)
set_option maxRecDepth 100000 in
set_option maxHeartbeats 8000000 in
theorem t_X12_born {l : Launch} {G : Gh} {M : Mem} {a0 : Nat} {p1 : Int32} {p2 : Int32} {p3 : Int32} {p4 : Int32} {q : Mem × Int32} (h : f_X12_born M a0 p1 p2 p3 p4 = some q) : Ctr l G yX12_born Y_X12_born M [.ref (gh G + a0), .int p1, .int p2, .int p3, .int p4] q.1 (some (.int q.2)) := by
  refine Ctr.of (Y := Y_X12_born) (L := [some (.ref (gh G + a0)), some (.int p1), some (.int p2), some (.int p3), some (.int p4), none]) (t := Option.bind (f_X12_born M a0 p1 p2 p3 p4) (fun q => some (q.1, some (.int q.2)))) (by decide) rfl rfl (nle rfl) (Lof_in 1 _ rfl) (fun X hG hl => ?_) (by rw [h]; rfl)
  subst hG
  subst hl
  unfold f_X12_born
  refine s_aload_n (pc := 0) 0 dX12_born_0 rfl rfl ?_
  refine s_iload_n (pc := 1) 1 dX12_born_1 rfl rfl ?_
  refine s_iload_n (pc := 2) 2 dX12_born_2 rfl rfl ?_
  refine s_iload_n (pc := 3) 3 dX12_born_3 rfl rfl ?_
  refine s_iload (pc := 4) dX12_born_4 rfl ?_
  refine s_grd (fun o1 => ?_)
  refine s_bind (fun q2 hq3 => ?_)
  have hC4 := t_X12_bears (l := xl X) (G := xG X) hq3
  refine s_callV (pc := 6) (As := [.int p1, .int p2, .int p3, .int p4]) (st := []) (nlt rfl) (q := (RX12, TX12, 59)) rfl rfl o1 cl_X12_bears wi_X12_bears wl_X12_bears km_X12_208 rfl rfl (nle rfl) (nle rfl) (nle rfl) dX12_born_6 hC4 ?_
  have h5 := hC4.1 X
  have o6 := h5.ok o1
  show S0 X _ q2.1 9 [some (.ref (gh (xG X) + a0)), some (.int p1), some (.int p2), some (.int p3), some (.int p4), none] [.int q2.2] _
  refine s_istore (pc := 9) dX12_born_9 (nlt rfl) rfl (L' := [some (.ref (gh (xG X) + a0)), some (.int p1), some (.int p2), some (.int p3), some (.int p4), some (.int q2.2)]) rfl ?_
  refine s_iload (pc := 11) dX12_born_11 rfl ?_
  refine s_ifge (pc := 13) 25 dX12_born_13 rfl ?_ ?_
  · refine s_aload_n (pc := 25) 0 dX12_born_25 rfl rfl ?_
    refine s_iload (pc := 26) dX12_born_26 rfl ?_
    refine s_bind (fun q7 hq8 => ?_)
    have hC9 := t_X12_good (l := xl X) (G := xG X) hq8
    refine s_callV (pc := 28) (As := [.int q2.2]) (st := []) (nlt rfl) (q := (RX12, TX12, 59)) rfl rfl o6 cl_X12_good wi_X12_good wl_X12_good km_X12_131 rfl rfl (nle rfl) (nle rfl) (nle rfl) dX12_born_28 hC9 ?_
    have h10 := hC9.1 X
    have o11 := h10.ok o6
    show S0 X _ q7.1 31 [some (.ref (gh (xG X) + a0)), some (.int p1), some (.int p2), some (.int p3), some (.int p4), some (.int q2.2)] [.int q7.2] _
    exact s_iret rfl dX12_born_31
  · refine s_aload_n (pc := 16) 0 dX12_born_16 rfl rfl ?_
    refine s_iload (pc := 17) dX12_born_17 rfl ?_
    refine s_bind (fun q12 hq13 => ?_)
    have hC14 := t_X12_refuses (l := xl X) (G := xG X) hq13
    refine s_callV (pc := 19) (As := [.int q2.2]) (st := []) (nlt rfl) (q := (RX12, TX12, 59)) rfl rfl o6 cl_X12_refuses wi_X12_refuses wl_X12_refuses km_X12_127 rfl rfl (nle rfl) (nle rfl) (nle rfl) dX12_born_19 hC14 ?_
    have h15 := hC14.1 X
    have o16 := h15.ok o6
    show S0 X _ q12.1 22 [some (.ref (gh (xG X) + a0)), some (.int p1), some (.int p2), some (.int p3), some (.int p4), some (.int q2.2)] [.int q12.2] _
    refine s_goto (pc := 22) 31 dX12_born_22 rfl ?_
    exact s_iret rfl dX12_born_31
set_option maxRecDepth 100000 in
set_option maxHeartbeats 8000000 in
noncomputable def f_X12_changes (M : Mem) (a0 : Nat) (p1 : Int32) (p2 : Int32) : Option (Mem × Int32) :=
  Option.bind (f_X12_isDish p1) (fun q1 => if q1 = 0 then (some (M, (-1))) else (grd (okO M 12 a0) (Option.bind (mR M a0 3) (fun r5 => grd (okO M 14 r5) (grd (vp_in 54 (mL M r5)) (Option.bind (f_X12_lists M a0 p1 (mI M r5 (54 : Int32).toNatClampNeg) 0) (fun q8 => if p2 = (-1) then (some (q8, mI q8 a0 11)) else (Option.bind (f_X12_lies p2 0 ((mI q8 a0 11) - 1)) (fun q13 => if q13 = 0 then (some (q8, (-1))) else (Option.bind (mR q8 a0 9) (fun r16 => grd (okO q8 14 r16) (grd (vp_in p2 (mL q8 r16)) (some (q8, mI q8 r16 p2.toNatClampNeg))))))))))))))
abbrev Y_X12_changes : Sta := (RX12, "changes", cX12_changes, 3, (some .int), 208)
set_option maxRecDepth 100000 in
set_option maxHeartbeats 8000000 in
theorem t_X12_changes {l : Launch} {G : Gh} {M : Mem} {a0 : Nat} {p1 : Int32} {p2 : Int32} {q : Mem × Int32} (h : f_X12_changes M a0 p1 p2 = some q) : Ctr l G yX12_changes Y_X12_changes M [.ref (gh G + a0), .int p1, .int p2] q.1 (some (.int q.2)) := by
  refine Ctr.of (Y := Y_X12_changes) (L := [some (.ref (gh G + a0)), some (.int p1), some (.int p2)]) (t := Option.bind (f_X12_changes M a0 p1 p2) (fun q => some (q.1, some (.int q.2)))) (by decide) rfl rfl (nle rfl) (Lof_in 0 _ rfl) (fun X hG hl => ?_) (by rw [h]; rfl)
  subst hG
  subst hl
  unfold f_X12_changes
  refine s_iload_n (pc := 0) 1 dX12_changes_0 rfl rfl ?_
  refine s_bind (fun q1 hq2 => ?_)
  have hC3 := t_X12_isDish (l := xl X) (G := xG X) (M := M) hq2
  refine s_callS (pc := 1) (As := [.int p1]) (st := []) cl_X12_isDish wt_X12_isDish km_X12_184 rfl rfl (nle rfl) (nle rfl) (nle rfl) dX12_changes_1 hC3 ?_
  show S0 X _ M 4 [some (.ref (gh (xG X) + a0)), some (.int p1), some (.int p2)] [.int q1] _
  refine s_ifne (pc := 4) 9 dX12_changes_4 rfl ?_ ?_
  · refine s_aload_n (pc := 9) 0 dX12_changes_9 rfl rfl ?_
    refine s_iload_n (pc := 10) 1 dX12_changes_10 rfl rfl ?_
    refine s_aload_n (pc := 11) 0 dX12_changes_11 rfl rfl ?_
    refine s_grd (fun o4 => ?_)
    refine s_geto (pc := 12) F_12 3 rfl o4 dX12_changes_12 kf_X12_20 ?_
    refine s_rvB (fun r5 => ?_)
    refine s_bipush (pc := 15) 54 dX12_changes_15 kb_54 ?_
    refine s_grd (fun o6 => ?_)
    refine s_grd (fun i7 => ?_)
    refine s_iald (pc := 17) o6 i7 dX12_changes_17 ?_
    refine s_iconst (pc := 18) 0 dX12_changes_18 kc_0 ?_
    refine s_bind (fun q8 hq9 => ?_)
    have hC10 := t_X12_lists (l := xl X) (G := xG X) hq9
    refine s_callV (pc := 19) (As := [.int p1, .int (mI M r5 (54 : Int32).toNatClampNeg), .int 0]) (st := []) (nlt rfl) (q := (RX12, TX12, 59)) rfl rfl o4 cl_X12_lists wi_X12_lists wl_X12_lists km_X12_187 rfl rfl (nle rfl) (nle rfl) (nle rfl) dX12_changes_19 hC10 ?_
    have h11 := hC10.1 X
    have o12 := h11.ok o4
    show S0 X _ q8 22 [some (.ref (gh (xG X) + a0)), some (.int p1), some (.int p2)] [] _
    refine s_iload_n (pc := 22) 2 dX12_changes_22 rfl rfl ?_
    refine s_iconst (pc := 23) (-1) dX12_changes_23 kc_m1 ?_
    refine s_icne (pc := 24) 34 dX12_changes_24 rfl ?_ ?_
    · refine s_iload_n (pc := 34) 2 dX12_changes_34 rfl rfl ?_
      refine s_iconst (pc := 35) 0 dX12_changes_35 kc_0 ?_
      refine s_aload_n (pc := 36) 0 dX12_changes_36 rfl rfl ?_
      refine s_geti (pc := 37) F_12 11 rfl o12 dX12_changes_37 kf_X12_174 ?_
      refine s_iconst (pc := 40) 1 dX12_changes_40 kc_1 ?_
      refine s_isub (pc := 41) dX12_changes_41 ?_
      refine s_bind (fun q13 hq14 => ?_)
      have hC15 := t_X12_lies (l := xl X) (G := xG X) (M := q8) hq14
      refine s_callS (pc := 42) (As := [.int p2, .int 0, .int ((mI q8 a0 11) - 1)]) (st := []) cl_X12_lies wt_X12_lies km_X12_123 rfl rfl (nle rfl) (nle rfl) (nle rfl) dX12_changes_42 hC15 ?_
      show S0 X _ q8 45 [some (.ref (gh (xG X) + a0)), some (.int p1), some (.int p2)] [.int q13] _
      refine s_ifeq (pc := 45) 57 dX12_changes_45 rfl ?_ ?_
      · refine s_iconst (pc := 57) (-1) dX12_changes_57 kc_m1 ?_
        exact s_iret rfl dX12_changes_58
      · refine s_aload_n (pc := 48) 0 dX12_changes_48 rfl rfl ?_
        refine s_geto (pc := 49) F_12 9 rfl o12 dX12_changes_49 kf_X12_33 ?_
        refine s_rvB (fun r16 => ?_)
        refine s_iload_n (pc := 52) 2 dX12_changes_52 rfl rfl ?_
        refine s_grd (fun o17 => ?_)
        refine s_grd (fun i18 => ?_)
        refine s_iald (pc := 53) o17 i18 dX12_changes_53 ?_
        refine s_goto (pc := 54) 58 dX12_changes_54 rfl ?_
        exact s_iret rfl dX12_changes_58
    · refine s_aload_n (pc := 27) 0 dX12_changes_27 rfl rfl ?_
      refine s_geti (pc := 28) F_12 11 rfl o12 dX12_changes_28 kf_X12_174 ?_
      refine s_goto (pc := 31) 58 dX12_changes_31 rfl ?_
      exact s_iret rfl dX12_changes_58
  · refine s_iconst (pc := 7) (-1) dX12_changes_7 kc_m1 ?_
    exact s_iret rfl dX12_changes_8
set_option maxRecDepth 100000 in
set_option maxHeartbeats 8000000 in
noncomputable def f_X12_laysNext (M : Mem) (a0 : Nat) : Option Mem :=
  grd (okO M 12 a0) (if (mI M a0 34) = (mI M a0 1) then (some M) else (bv (wI M a0 34 (mI M a0 1)) (fun M2 => Option.bind (loopO (σ := Mem × Int32) (ρ := Mem) (fun s6 => if 9331 ≤ s6.2 then (some (.inr s6.1)) else (Option.bind (f_X12_dishAt s6.2) (fun q15 => Option.bind (mR s6.1 a0 3) (fun r18 => grd (okO s6.1 14 r18) (grd (vp_in 54 (mL s6.1 r18)) (Option.bind (f_X12_lists s6.1 a0 q15 (mI s6.1 r18 (54 : Int32).toNatClampNeg) 0) (fun q21 => Option.bind (mR q21 a0 33) (fun r26 => grd (okO q21 14 r26) (grd (vp_in s6.2 (mL q21 r26)) (bv (wI q21 r26 s6.2.toNatClampNeg (mI q21 a0 11)) (fun M29 => Option.bind (loopO (σ := Mem × Int32) (ρ := Mem) (fun s33 => if (mI s33.1 a0 11) ≤ s33.2 then (some (.inr s33.1)) else (Option.bind (mR s33.1 a0 32) (fun r42 => Option.bind (mR s33.1 a0 9) (fun r43 => grd (okO s33.1 14 r43) (grd (vp_in s33.2 (mL s33.1 r43)) (Option.bind (f_X12_placeOf (mI s33.1 r43 s33.2.toNatClampNeg)) (fun q46 => grd (okO s33.1 14 r42) (grd (vp_in ((46 * s6.2) + s33.2) (mL s33.1 r42)) (bv (wI s33.1 r42 ((46 * s6.2) + s33.2).toNatClampNeg q46) (fun M51 => bv (s33.2 + 1 : Int32) (fun x55 => some (.inl (M51, x55))))))))))))) (M29, 0)) (fun (x40 : Mem) => bv (s6.2 + 1 : Int32) (fun x57 => some (.inl (x40, x57))))))))))))))) (M2, 0)) (fun (x13 : Mem) => some x13))))
abbrev Y_X12_laysNext : Sta := (RX12, "laysNext", cX12_laysNext, 3, none, 208)
set_option maxRecDepth 100000 in
set_option maxHeartbeats 8000000 in
theorem t_X12_laysNext {l : Launch} {G : Gh} {M : Mem} {a0 : Nat} {q : Mem} (h : f_X12_laysNext M a0 = some q) : Ctr l G yX12_laysNext Y_X12_laysNext M [.ref (gh G + a0)] q (none) := by
  refine Ctr.of (Y := Y_X12_laysNext) (L := [some (.ref (gh G + a0)), none, none]) (t := Option.bind (f_X12_laysNext M a0) (fun q => some (q, (none : Option Value)))) (by decide) rfl rfl (nle rfl) (Lof_in 2 _ rfl) (fun X hG hl => ?_) (by rw [h]; rfl)
  subst hG
  subst hl
  unfold f_X12_laysNext
  refine s_aload_n (pc := 0) 0 dX12_laysNext_0 rfl rfl ?_
  refine s_grd (fun o1 => ?_)
  refine s_geti (pc := 1) F_12 34 rfl o1 dX12_laysNext_1 kf_X12_74 ?_
  refine s_aload_n (pc := 4) 0 dX12_laysNext_4 rfl rfl ?_
  refine s_geti (pc := 5) F_12 1 rfl o1 dX12_laysNext_5 kf_X12_11 ?_
  refine s_icne (pc := 8) 12 dX12_laysNext_8 rfl ?_ ?_
  · refine s_aload_n (pc := 12) 0 dX12_laysNext_12 rfl rfl ?_
    refine s_aload_n (pc := 13) 0 dX12_laysNext_13 rfl rfl ?_
    refine s_geti (pc := 14) F_12 1 rfl o1 dX12_laysNext_14 kf_X12_11 ?_
    refine s_puti (pc := 17) F_12 34 rfl o1 rfl rfl rfl dX12_laysNext_17 kf_X12_74 (fun M2 hM3 => ?_)
    have h4 := le_wI hM3
    have o5 := h4.ok o1
    refine s_iconst (pc := 20) 0 dX12_laysNext_20 kc_0 ?_
    refine s_istore_n (pc := 21) 1 dX12_laysNext_21 rfl (nlt rfl) rfl (L' := [some (.ref (gh (xG X) + a0)), some (.int 0), none]) rfl ?_
    refine s_drop (L' := [some (.ref (gh (xG X) + a0)), some (.int 0), none]) ?_ (And.intro rfl (And.intro rfl trivial))
    refine s_loop1 M2 (fun s6 : Mem × Int32 => s6.1) (fun s6 : Mem × Int32 => [some (.ref (gh (xG X) + a0)), some (.int s6.2), none]) (fun x13 : Mem => x13) 97 (fun x13 : Mem => [none, none, none]) (fun x13 hx14 => ?_) (fun T8 R10 hT9 hR11 s6 hs7 => ?_) (M2, 0) Le.rf
    · show S0 X _ x13 97 [none, none, none] [] _
      exact s_vret rfl dX12_laysNext_97
    · show S0 X _ s6.1 22 [some (.ref (gh (xG X) + a0)), some (.int s6.2), none] [] _
      have o12 := hs7.ok o5
      refine s_iload_n (pc := 22) 1 dX12_laysNext_22 rfl rfl ?_
      refine s_sipush (pc := 23) 9331 dX12_laysNext_23 ks_9331 ?_
      refine s_icge (pc := 26) 97 dX12_laysNext_26 rfl ?_ ?_
      · exact s_drop (hR11 s6.1 hs7) trivial
      · refine s_aload_n (pc := 29) 0 dX12_laysNext_29 rfl rfl ?_
        refine s_iload_n (pc := 30) 1 dX12_laysNext_30 rfl rfl ?_
        refine s_bind (fun q15 hq16 => ?_)
        have hC17 := t_X12_dishAt (l := xl X) (G := xG X) (M := s6.1) hq16
        refine s_callS (pc := 31) (As := [.int s6.2]) (st := [.ref (gh (xG X) + a0)]) cl_X12_dishAt wt_X12_dishAt km_X12_359 rfl rfl (nle rfl) (nle rfl) (nle rfl) dX12_laysNext_31 hC17 ?_
        show S0 X _ s6.1 34 [some (.ref (gh (xG X) + a0)), some (.int s6.2), none] [.int q15, .ref (gh (xG X) + a0)] _
        refine s_aload_n (pc := 34) 0 dX12_laysNext_34 rfl rfl ?_
        refine s_geto (pc := 35) F_12 3 rfl o12 dX12_laysNext_35 kf_X12_20 ?_
        refine s_rvB (fun r18 => ?_)
        refine s_bipush (pc := 38) 54 dX12_laysNext_38 kb_54 ?_
        refine s_grd (fun o19 => ?_)
        refine s_grd (fun i20 => ?_)
        refine s_iald (pc := 40) o19 i20 dX12_laysNext_40 ?_
        refine s_iconst (pc := 41) 0 dX12_laysNext_41 kc_0 ?_
        refine s_bind (fun q21 hq22 => ?_)
        have hC23 := t_X12_lists (l := xl X) (G := xG X) hq22
        refine s_callV (pc := 42) (As := [.int q15, .int (mI s6.1 r18 (54 : Int32).toNatClampNeg), .int 0]) (st := []) (nlt rfl) (q := (RX12, TX12, 59)) rfl rfl o12 cl_X12_lists wi_X12_lists wl_X12_lists km_X12_187 rfl rfl (nle rfl) (nle rfl) (nle rfl) dX12_laysNext_42 hC23 ?_
        have h24 := hC23.1 X
        have o25 := h24.ok o12
        show S0 X _ q21 45 [some (.ref (gh (xG X) + a0)), some (.int s6.2), none] [] _
        refine s_aload_n (pc := 45) 0 dX12_laysNext_45 rfl rfl ?_
        refine s_geto (pc := 46) F_12 33 rfl o25 dX12_laysNext_46 kf_X12_71 ?_
        refine s_rvB (fun r26 => ?_)
        refine s_iload_n (pc := 49) 1 dX12_laysNext_49 rfl rfl ?_
        refine s_aload_n (pc := 50) 0 dX12_laysNext_50 rfl rfl ?_
        refine s_geti (pc := 51) F_12 11 rfl o25 dX12_laysNext_51 kf_X12_174 ?_
        refine s_grd (fun o27 => ?_)
        refine s_grd (fun i28 => ?_)
        refine s_iast (pc := 54) o27 i28 dX12_laysNext_54 (fun M29 hM30 => ?_)
        have h31 := le_wI hM30
        have o32 := h31.ok o25
        refine s_iconst (pc := 55) 0 dX12_laysNext_55 kc_0 ?_
        refine s_istore_n (pc := 56) 2 dX12_laysNext_56 rfl (nlt rfl) rfl (L' := [some (.ref (gh (xG X) + a0)), some (.int s6.2), some (.int 0)]) rfl ?_
        refine s_drop (L' := [some (.ref (gh (xG X) + a0)), some (.int s6.2), some (.int 0)]) ?_ (And.intro rfl (And.intro rfl (And.intro rfl trivial)))
        refine s_loop1 M29 (fun s33 : Mem × Int32 => s33.1) (fun s33 : Mem × Int32 => [some (.ref (gh (xG X) + a0)), some (.int s6.2), some (.int s33.2)]) (fun x40 : Mem => x40) 91 (fun x40 : Mem => [some (.ref (gh (xG X) + a0)), some (.int s6.2), none]) (fun x40 hx41 => ?_) (fun T35 R37 hT36 hR38 s33 hs34 => ?_) (M29, 0) Le.rf
        · show S0 X _ x40 91 [some (.ref (gh (xG X) + a0)), some (.int s6.2), none] [] _
          have o56 := hx41.ok o32
          refine s_iinc (pc := 91) dX12_laysNext_91 rfl (v := s6.2 + 1) (congrArg (fun z : Int32 => s6.2 + z) kc_1) (nlt rfl) rfl (L' := [some (.ref (gh (xG X) + a0)), some (.int (s6.2 + 1)), none]) rfl ?_
          refine s_bv (fun x57 : Int32 => [some (.ref (gh (xG X) + a0)), some (.int x57), none]) (fun x57 => ?_) rfl
          refine s_goto (pc := 94) 22 dX12_laysNext_94 rfl ?_
          exact s_drop (hT9 (x40, x57) (hs7.tr (h24.tr (h31.tr hx41)))) (And.intro rfl (And.intro rfl trivial))
        · show S0 X _ s33.1 57 [some (.ref (gh (xG X) + a0)), some (.int s6.2), some (.int s33.2)] [] _
          have o39 := hs34.ok o32
          refine s_iload_n (pc := 57) 2 dX12_laysNext_57 rfl rfl ?_
          refine s_aload_n (pc := 58) 0 dX12_laysNext_58 rfl rfl ?_
          refine s_geti (pc := 59) F_12 11 rfl o39 dX12_laysNext_59 kf_X12_174 ?_
          refine s_icge (pc := 62) 91 dX12_laysNext_62 rfl ?_ ?_
          · exact s_drop (hR38 s33.1 hs34) (And.intro rfl (And.intro rfl trivial))
          · refine s_aload_n (pc := 65) 0 dX12_laysNext_65 rfl rfl ?_
            refine s_geto (pc := 66) F_12 32 rfl o39 dX12_laysNext_66 kf_X12_68 ?_
            refine s_rvB (fun r42 => ?_)
            refine s_bipush (pc := 69) 46 dX12_laysNext_69 kb_46 ?_
            refine s_iload_n (pc := 71) 1 dX12_laysNext_71 rfl rfl ?_
            refine s_imul (pc := 72) dX12_laysNext_72 ?_
            refine s_iload_n (pc := 73) 2 dX12_laysNext_73 rfl rfl ?_
            refine s_iadd (pc := 74) dX12_laysNext_74 ?_
            refine s_aload_n (pc := 75) 0 dX12_laysNext_75 rfl rfl ?_
            refine s_geto (pc := 76) F_12 9 rfl o39 dX12_laysNext_76 kf_X12_33 ?_
            refine s_rvB (fun r43 => ?_)
            refine s_iload_n (pc := 79) 2 dX12_laysNext_79 rfl rfl ?_
            refine s_grd (fun o44 => ?_)
            refine s_grd (fun i45 => ?_)
            refine s_iald (pc := 80) o44 i45 dX12_laysNext_80 ?_
            refine s_bind (fun q46 hq47 => ?_)
            have hC48 := t_X12_placeOf (l := xl X) (G := xG X) (M := s33.1) hq47
            refine s_callS (pc := 81) (As := [.int (mI s33.1 r43 s33.2.toNatClampNeg)]) (st := [.int ((46 * s6.2) + s33.2), .ref (gh (xG X) + r42)]) cl_X12_placeOf wt_X12_placeOf km_X12_362 rfl rfl (nle rfl) (nle rfl) (nle rfl) dX12_laysNext_81 hC48 ?_
            show S0 X _ s33.1 84 [some (.ref (gh (xG X) + a0)), some (.int s6.2), some (.int s33.2)] [.int q46, .int ((46 * s6.2) + s33.2), .ref (gh (xG X) + r42)] _
            refine s_grd (fun o49 => ?_)
            refine s_grd (fun i50 => ?_)
            refine s_iast (pc := 84) o49 i50 dX12_laysNext_84 (fun M51 hM52 => ?_)
            have h53 := le_wI hM52
            have o54 := h53.ok o39
            refine s_iinc (pc := 85) dX12_laysNext_85 rfl (v := s33.2 + 1) (congrArg (fun z : Int32 => s33.2 + z) kc_1) (nlt rfl) rfl (L' := [some (.ref (gh (xG X) + a0)), some (.int s6.2), some (.int (s33.2 + 1))]) rfl ?_
            refine s_bv (fun x55 : Int32 => [some (.ref (gh (xG X) + a0)), some (.int s6.2), some (.int x55)]) (fun x55 => ?_) rfl
            refine s_goto (pc := 88) 57 dX12_laysNext_88 rfl ?_
            exact s_drop (hT36 (M51, x55) (hs34.tr h53)) (And.intro rfl (And.intro rfl (And.intro rfl trivial)))
  · exact s_vret rfl dX12_laysNext_11
