set_option maxRecDepth 100000 in
set_option maxHeartbeats 8000000 in
noncomputable def f_X12_placeOf (p0 : Int32) : Option Int32 :=
  Option.bind (loopO (σ := Int32 × Int32 × Int32 × Int32 × Int32 × Int32 × Int32) (ρ := Int32 × Int32) (fun s1 => if 5 ≤ s1.2.2.2.2.2.2 then (some (.inr (s1.1, s1.2.2.1))) else (grd (¬ s1.2.2.2.2.1 = 0) (bv (ir (p0 / s1.2.2.2.2.1) 10 : Int32) (fun x10 => bv (s1.2.2.2.2.1 / 10 : Int32) (fun x11 => bv (fun (s13 : Int32) => bv (fun (s17 : Int32 × Int32 × Int32 × Int32) => bv (s1.2.2.2.2.2.2 + 1 : Int32) (fun x20 => some (.inl (s17.1, s17.2.1, s17.2.2.1, s17.2.2.2, x11, s13, x20)))) (fun j16 => if s13 = 0 then (j16 (s1.1, s1.2.1, s1.2.2.1, s1.2.2.2.1)) else (bv (s1.2.1 + s1.2.2.2.1 : Int32) (fun x21 => bv (s1.2.2.2.1 * 6 : Int32) (fun x22 => bv (((6 * s1.2.2.1) + x10) - 1 : Int32) (fun x23 => j16 (x21, x21, x23, x22))))))) (fun j12 => bv (fun (s25 : Unit) => j12 1) (fun j24 => if s1.2.2.2.2.2.1 = 0 then (if x10 ≤ 0 then (j12 0) else (j24 ())) else (j24 ())))))))) (0, 0, 0, 1, 10000, 0, 0)) (fun (x7 : Int32 × Int32) => some (x7.1 + x7.2))
abbrev Y_X12_placeOf : Sta := (RX12, "placeOf", cX12_placeOf, 9, (some .int), 1)
set_option maxRecDepth 100000 in
set_option maxHeartbeats 8000000 in
theorem t_X12_placeOf {l : Launch} {G : Gh} {M : Mem} {p0 : Int32} {q : Int32} (h : f_X12_placeOf p0 = some q) : Ctr l G yX12_placeOf Y_X12_placeOf M [.int p0] M (some (.int q)) := by
  refine Ctr.of (Y := Y_X12_placeOf) (L := [some (.int p0), none, none, none, none, none, none, none, none]) (t := Option.bind (f_X12_placeOf p0) (fun q => some (M, some (.int q)))) (by decide) rfl rfl (nle rfl) (Lof_in 8 _ rfl) (fun X hG hl => ?_) (by rw [h]; rfl)
  subst hG
  subst hl
  unfold f_X12_placeOf
  refine s_iconst (pc := 0) 0 dX12_placeOf_0 kc_0 ?_
  refine s_istore_n (pc := 1) 1 dX12_placeOf_1 rfl (nlt rfl) rfl (L' := [some (.int p0), some (.int 0), none, none, none, none, none, none, none]) rfl ?_
  refine s_iconst (pc := 2) 0 dX12_placeOf_2 kc_0 ?_
  refine s_istore_n (pc := 3) 2 dX12_placeOf_3 rfl (nlt rfl) rfl (L' := [some (.int p0), some (.int 0), some (.int 0), none, none, none, none, none, none]) rfl ?_
  refine s_iconst (pc := 4) 0 dX12_placeOf_4 kc_0 ?_
  refine s_istore_n (pc := 5) 3 dX12_placeOf_5 rfl (nlt rfl) rfl (L' := [some (.int p0), some (.int 0), some (.int 0), some (.int 0), none, none, none, none, none]) rfl ?_
  refine s_iconst (pc := 6) 1 dX12_placeOf_6 kc_1 ?_
  refine s_istore (pc := 7) dX12_placeOf_7 (nlt rfl) rfl (L' := [some (.int p0), some (.int 0), some (.int 0), some (.int 0), some (.int 1), none, none, none, none]) rfl ?_
  refine s_sipush (pc := 9) 10000 dX12_placeOf_9 ks_10000 ?_
  refine s_istore (pc := 12) dX12_placeOf_12 (nlt rfl) rfl (L' := [some (.int p0), some (.int 0), some (.int 0), some (.int 0), some (.int 1), some (.int 10000), none, none, none]) rfl ?_
  refine s_iconst (pc := 14) 0 dX12_placeOf_14 kc_0 ?_
  refine s_istore (pc := 15) dX12_placeOf_15 (nlt rfl) rfl (L' := [some (.int p0), some (.int 0), some (.int 0), some (.int 0), some (.int 1), some (.int 10000), some (.int 0), none, none]) rfl ?_
  refine s_iconst (pc := 17) 0 dX12_placeOf_17 kc_0 ?_
  refine s_istore (pc := 18) dX12_placeOf_18 (nlt rfl) rfl (L' := [some (.int p0), some (.int 0), some (.int 0), some (.int 0), some (.int 1), some (.int 10000), some (.int 0), some (.int 0), none]) rfl ?_
  refine s_drop (L' := [some (.int p0), some (.int 0), some (.int 0), some (.int 0), some (.int 1), some (.int 10000), some (.int 0), some (.int 0), none]) ?_ (And.intro rfl (And.intro rfl (And.intro rfl (And.intro rfl (And.intro rfl (And.intro rfl (And.intro rfl (And.intro rfl trivial))))))))
  refine s_loop1 M (fun s1 : Int32 × Int32 × Int32 × Int32 × Int32 × Int32 × Int32 => M) (fun s1 : Int32 × Int32 × Int32 × Int32 × Int32 × Int32 × Int32 => [some (.int p0), some (.int s1.1), some (.int s1.2.1), some (.int s1.2.2.1), some (.int s1.2.2.2.1), some (.int s1.2.2.2.2.1), some (.int s1.2.2.2.2.2.1), some (.int s1.2.2.2.2.2.2), none]) (fun x7 : Int32 × Int32 => M) 97 (fun x7 : Int32 × Int32 => [none, some (.int x7.1), none, some (.int x7.2), none, none, none, none, none]) (fun x7 hx8 => ?_) (fun T3 R5 hT4 hR6 s1 hs2 => ?_) (0, 0, 0, 1, 10000, 0, 0) Le.rf
  · show S0 X _ M 97 [none, some (.int x7.1), none, some (.int x7.2), none, none, none, none, none] [] _
    refine s_iload_n (pc := 97) 1 dX12_placeOf_97 rfl rfl ?_
    refine s_iload_n (pc := 98) 3 dX12_placeOf_98 rfl rfl ?_
    refine s_iadd (pc := 99) dX12_placeOf_99 ?_
    exact s_iret rfl dX12_placeOf_100
  · show S0 X _ M 20 [some (.int p0), some (.int s1.1), some (.int s1.2.1), some (.int s1.2.2.1), some (.int s1.2.2.2.1), some (.int s1.2.2.2.2.1), some (.int s1.2.2.2.2.2.1), some (.int s1.2.2.2.2.2.2), none] [] _
    refine s_iload (pc := 20) dX12_placeOf_20 rfl ?_
    refine s_iconst (pc := 22) 5 dX12_placeOf_22 kc_5 ?_
    refine s_icge (pc := 23) 97 dX12_placeOf_23 rfl ?_ ?_
    · exact s_drop (hR6 (s1.1, s1.2.2.1) Le.rf) (And.intro rfl (And.intro rfl trivial))
    · refine s_iload_n (pc := 26) 0 dX12_placeOf_26 rfl rfl ?_
      refine s_iload (pc := 27) dX12_placeOf_27 rfl ?_
      refine s_grd (fun g9 => ?_)
      refine s_idiv (pc := 29) dX12_placeOf_29 g9 ?_
      refine s_bipush (pc := 30) 10 dX12_placeOf_30 kb_10 ?_
      refine s_irem (pc := 32) dX12_placeOf_32 (by decide) ?_
      refine s_istore (pc := 33) dX12_placeOf_33 (nlt rfl) rfl (L' := [some (.int p0), some (.int s1.1), some (.int s1.2.1), some (.int s1.2.2.1), some (.int s1.2.2.2.1), some (.int s1.2.2.2.2.1), some (.int s1.2.2.2.2.2.1), some (.int s1.2.2.2.2.2.2), some (.int (ir (p0 / s1.2.2.2.2.1) 10))]) rfl ?_
      refine s_bv (fun x10 : Int32 => [some (.int p0), some (.int s1.1), some (.int s1.2.1), some (.int s1.2.2.1), some (.int s1.2.2.2.1), some (.int s1.2.2.2.2.1), some (.int s1.2.2.2.2.2.1), some (.int s1.2.2.2.2.2.2), some (.int x10)]) (fun x10 => ?_) rfl
      refine s_iload (pc := 35) dX12_placeOf_35 rfl ?_
      refine s_bipush (pc := 37) 10 dX12_placeOf_37 kb_10 ?_
      refine s_idiv (pc := 39) dX12_placeOf_39 (by decide) ?_
      refine s_istore (pc := 40) dX12_placeOf_40 (nlt rfl) rfl (L' := [some (.int p0), some (.int s1.1), some (.int s1.2.1), some (.int s1.2.2.1), some (.int s1.2.2.2.1), some (.int (s1.2.2.2.2.1 / 10)), some (.int s1.2.2.2.2.2.1), some (.int s1.2.2.2.2.2.2), some (.int x10)]) rfl ?_
      refine s_bv (fun x11 : Int32 => [some (.int p0), some (.int s1.1), some (.int s1.2.1), some (.int s1.2.2.1), some (.int s1.2.2.2.1), some (.int x11), some (.int s1.2.2.2.2.2.1), some (.int s1.2.2.2.2.2.2), some (.int x10)]) (fun x11 => ?_) rfl
      refine s_iload (pc := 42) dX12_placeOf_42 rfl ?_
      refine s_join M (fun s13 : Int32 => M) 57 (fun s13 : Int32 => [some (.int p0), some (.int s1.1), some (.int s1.2.1), some (.int s1.2.2.1), some (.int s1.2.2.2.1), some (.int x11), none, some (.int s1.2.2.2.2.2.2), some (.int x10)]) (fun s13 : Int32 => [.int s13]) (fun s13 hs14 => ?_) (fun j12 hj15 => ?_)
      · show S0 X _ M 57 [some (.int p0), some (.int s1.1), some (.int s1.2.1), some (.int s1.2.2.1), some (.int s1.2.2.2.1), some (.int x11), none, some (.int s1.2.2.2.2.2.2), some (.int x10)] [.int s13] _
        refine s_istore (pc := 57) dX12_placeOf_57 (nlt rfl) rfl (L' := [some (.int p0), some (.int s1.1), some (.int s1.2.1), some (.int s1.2.2.1), some (.int s1.2.2.2.1), some (.int x11), some (.int s13), some (.int s1.2.2.2.2.2.2), some (.int x10)]) rfl ?_
        refine s_iload (pc := 59) dX12_placeOf_59 rfl ?_
        refine s_join M (fun s17 : Int32 × Int32 × Int32 × Int32 => M) 91 (fun s17 : Int32 × Int32 × Int32 × Int32 => [some (.int p0), some (.int s17.1), some (.int s17.2.1), some (.int s17.2.2.1), some (.int s17.2.2.2), some (.int x11), some (.int s13), some (.int s1.2.2.2.2.2.2), none]) (fun s17 : Int32 × Int32 × Int32 × Int32 => []) (fun s17 hs18 => ?_) (fun j16 hj19 => ?_)
        · show S0 X _ M 91 [some (.int p0), some (.int s17.1), some (.int s17.2.1), some (.int s17.2.2.1), some (.int s17.2.2.2), some (.int x11), some (.int s13), some (.int s1.2.2.2.2.2.2), none] [] _
          refine s_iinc (pc := 91) dX12_placeOf_91 rfl (v := s1.2.2.2.2.2.2 + 1) (congrArg (fun z : Int32 => s1.2.2.2.2.2.2 + z) kc_1) (nlt rfl) rfl (L' := [some (.int p0), some (.int s17.1), some (.int s17.2.1), some (.int s17.2.2.1), some (.int s17.2.2.2), some (.int x11), some (.int s13), some (.int (s1.2.2.2.2.2.2 + 1)), none]) rfl ?_
          refine s_bv (fun x20 : Int32 => [some (.int p0), some (.int s17.1), some (.int s17.2.1), some (.int s17.2.2.1), some (.int s17.2.2.2), some (.int x11), some (.int s13), some (.int x20), none]) (fun x20 => ?_) rfl
          refine s_goto (pc := 94) 20 dX12_placeOf_94 rfl ?_
          exact s_drop (hT4 (s17.1, s17.2.1, s17.2.2.1, s17.2.2.2, x11, s13, x20) Le.rf) (And.intro rfl (And.intro rfl (And.intro rfl (And.intro rfl (And.intro rfl (And.intro rfl (And.intro rfl (And.intro rfl trivial))))))))
        · refine s_ifne (pc := 61) 67 dX12_placeOf_61 rfl ?_ ?_
          · refine s_iload_n (pc := 67) 2 dX12_placeOf_67 rfl rfl ?_
            refine s_iload (pc := 68) dX12_placeOf_68 rfl ?_
            refine s_iadd (pc := 70) dX12_placeOf_70 ?_
            refine s_istore_n (pc := 71) 2 dX12_placeOf_71 rfl (nlt rfl) rfl (L' := [some (.int p0), some (.int s1.1), some (.int (s1.2.1 + s1.2.2.2.1)), some (.int s1.2.2.1), some (.int s1.2.2.2.1), some (.int x11), some (.int s13), some (.int s1.2.2.2.2.2.2), some (.int x10)]) rfl ?_
            refine s_bv (fun x21 : Int32 => [some (.int p0), some (.int s1.1), some (.int x21), some (.int s1.2.2.1), some (.int s1.2.2.2.1), some (.int x11), some (.int s13), some (.int s1.2.2.2.2.2.2), some (.int x10)]) (fun x21 => ?_) rfl
            refine s_iload (pc := 72) dX12_placeOf_72 rfl ?_
            refine s_bipush (pc := 74) 6 dX12_placeOf_74 kb_6 ?_
            refine s_imul (pc := 76) dX12_placeOf_76 ?_
            refine s_istore (pc := 77) dX12_placeOf_77 (nlt rfl) rfl (L' := [some (.int p0), some (.int s1.1), some (.int x21), some (.int s1.2.2.1), some (.int (s1.2.2.2.1 * 6)), some (.int x11), some (.int s13), some (.int s1.2.2.2.2.2.2), some (.int x10)]) rfl ?_
            refine s_bv (fun x22 : Int32 => [some (.int p0), some (.int s1.1), some (.int x21), some (.int s1.2.2.1), some (.int x22), some (.int x11), some (.int s13), some (.int s1.2.2.2.2.2.2), some (.int x10)]) (fun x22 => ?_) rfl
            refine s_bipush (pc := 79) 6 dX12_placeOf_79 kb_6 ?_
            refine s_iload_n (pc := 81) 3 dX12_placeOf_81 rfl rfl ?_
            refine s_imul (pc := 82) dX12_placeOf_82 ?_
            refine s_iload (pc := 83) dX12_placeOf_83 rfl ?_
            refine s_iadd (pc := 85) dX12_placeOf_85 ?_
            refine s_iconst (pc := 86) 1 dX12_placeOf_86 kc_1 ?_
            refine s_isub (pc := 87) dX12_placeOf_87 ?_
            refine s_istore_n (pc := 88) 3 dX12_placeOf_88 rfl (nlt rfl) rfl (L' := [some (.int p0), some (.int s1.1), some (.int x21), some (.int (((6 * s1.2.2.1) + x10) - 1)), some (.int x22), some (.int x11), some (.int s13), some (.int s1.2.2.2.2.2.2), some (.int x10)]) rfl ?_
            refine s_bv (fun x23 : Int32 => [some (.int p0), some (.int s1.1), some (.int x21), some (.int x23), some (.int x22), some (.int x11), some (.int s13), some (.int s1.2.2.2.2.2.2), some (.int x10)]) (fun x23 => ?_) rfl
            refine s_iload_n (pc := 89) 2 dX12_placeOf_89 rfl rfl ?_
            refine s_istore_n (pc := 90) 1 dX12_placeOf_90 rfl (nlt rfl) rfl (L' := [some (.int p0), some (.int x21), some (.int x21), some (.int x23), some (.int x22), some (.int x11), some (.int s13), some (.int s1.2.2.2.2.2.2), some (.int x10)]) rfl ?_
            exact s_drop (hj19 (x21, x21, x23, x22) Le.rf) (And.intro rfl (And.intro rfl (And.intro rfl (And.intro rfl (And.intro rfl (And.intro rfl (And.intro rfl (And.intro rfl trivial))))))))
          · refine s_goto (pc := 64) 91 dX12_placeOf_64 rfl ?_
            exact s_drop (hj19 (s1.1, s1.2.1, s1.2.2.1, s1.2.2.2.1) Le.rf) (And.intro rfl (And.intro rfl (And.intro rfl (And.intro rfl (And.intro rfl (And.intro rfl (And.intro rfl (And.intro rfl trivial))))))))
      · refine s_join M (fun s25 : Unit => M) 52 (fun s25 : Unit => [some (.int p0), some (.int s1.1), some (.int s1.2.1), some (.int s1.2.2.1), some (.int s1.2.2.2.1), some (.int x11), none, some (.int s1.2.2.2.2.2.2), some (.int x10)]) (fun s25 : Unit => []) (fun s25 hs26 => ?_) (fun j24 hj27 => ?_)
        · show S0 X _ M 52 [some (.int p0), some (.int s1.1), some (.int s1.2.1), some (.int s1.2.2.1), some (.int s1.2.2.2.1), some (.int x11), none, some (.int s1.2.2.2.2.2.2), some (.int x10)] [] _
          refine s_iconst (pc := 52) 1 dX12_placeOf_52 kc_1 ?_
          refine s_goto (pc := 53) 57 dX12_placeOf_53 rfl ?_
          exact s_drop (hj15 1 Le.rf) (And.intro rfl (And.intro rfl (And.intro rfl (And.intro rfl (And.intro rfl (And.intro rfl (And.intro rfl (And.intro rfl trivial))))))))
        · refine s_ifne (pc := 44) 52 dX12_placeOf_44 rfl ?_ ?_
          · exact s_drop (hj27 () Le.rf) (And.intro rfl (And.intro rfl (And.intro rfl (And.intro rfl (And.intro rfl (And.intro rfl (And.intro rfl (And.intro rfl trivial))))))))
          · refine s_iload (pc := 47) dX12_placeOf_47 rfl ?_
            refine s_ifle (pc := 49) 56 dX12_placeOf_49 rfl ?_ ?_
            · refine s_iconst (pc := 56) 0 dX12_placeOf_56 kc_0 ?_
              exact s_drop (hj15 0 Le.rf) (And.intro rfl (And.intro rfl (And.intro rfl (And.intro rfl (And.intro rfl (And.intro rfl (And.intro rfl (And.intro rfl trivial))))))))
            · exact s_drop (hj27 () Le.rf) (And.intro rfl (And.intro rfl (And.intro rfl (And.intro rfl (And.intro rfl (And.intro rfl (And.intro rfl (And.intro rfl trivial))))))))
set_option maxRecDepth 100000 in
set_option maxHeartbeats 8000000 in
noncomputable def f_X12_refuses (M : Mem) (a0 : Nat) (p1 : Int32) : Option (Mem × Int32) :=
  grd (okO M 12 a0) (bv (wI M a0 0 p1) (fun M2 => Option.bind (mR M2 a0 2) (fun r6 => grd (okO M2 14 r6) (grd (vp_in (-p1) (mL M2 r6)) (bv (wI M2 r6 (-p1).toNatClampNeg ((mI M2 r6 (-p1).toNatClampNeg) + 1)) (fun M9 => some (M9, p1)))))))
abbrev Y_X12_refuses : Sta := (RX12, "refuses", cX12_refuses, 2, (some .int), 1)
set_option maxRecDepth 100000 in
set_option maxHeartbeats 8000000 in
theorem t_X12_refuses {l : Launch} {G : Gh} {M : Mem} {a0 : Nat} {p1 : Int32} {q : Mem × Int32} (h : f_X12_refuses M a0 p1 = some q) : Ctr l G yX12_refuses Y_X12_refuses M [.ref (gh G + a0), .int p1] q.1 (some (.int q.2)) := by
  refine Ctr.of (Y := Y_X12_refuses) (L := [some (.ref (gh G + a0)), some (.int p1)]) (t := Option.bind (f_X12_refuses M a0 p1) (fun q => some (q.1, some (.int q.2)))) (by decide) rfl rfl (nle rfl) (Lof_in 0 _ rfl) (fun X hG hl => ?_) (by rw [h]; rfl)
  subst hG
  subst hl
  unfold f_X12_refuses
  refine s_aload_n (pc := 0) 0 dX12_refuses_0 rfl rfl ?_
  refine s_iload_n (pc := 1) 1 dX12_refuses_1 rfl rfl ?_
  refine s_grd (fun o1 => ?_)
  refine s_puti (pc := 2) F_12 0 rfl o1 rfl rfl rfl dX12_refuses_2 kf_X12_3 (fun M2 hM3 => ?_)
  have h4 := le_wI hM3
  have o5 := h4.ok o1
  refine s_aload_n (pc := 5) 0 dX12_refuses_5 rfl rfl ?_
  refine s_geto (pc := 6) F_12 2 rfl o5 dX12_refuses_6 kf_X12_7 ?_
  refine s_rvB (fun r6 => ?_)
  refine s_iload_n (pc := 9) 1 dX12_refuses_9 rfl rfl ?_
  refine s_ineg (pc := 10) dX12_refuses_10 ?_
  refine s_dup2 (pc := 11) dX12_refuses_11 rfl rfl ?_
  refine s_grd (fun o7 => ?_)
  refine s_grd (fun i8 => ?_)
  refine s_iald (pc := 12) o7 i8 dX12_refuses_12 ?_
  refine s_iconst (pc := 13) 1 dX12_refuses_13 kc_1 ?_
  refine s_iadd (pc := 14) dX12_refuses_14 ?_
  refine s_iast (pc := 15) o7 i8 dX12_refuses_15 (fun M9 hM10 => ?_)
  have h11 := le_wI hM10
  have o12 := h11.ok o5
  refine s_iload_n (pc := 16) 1 dX12_refuses_16 rfl rfl ?_
  exact s_iret rfl dX12_refuses_17
set_option maxRecDepth 100000 in
set_option maxHeartbeats 8000000 in
noncomputable def f_X12_sign (p0 : Int32) : Option Int32 :=
  some (100 + p0)
abbrev Y_X12_sign : Sta := (RX12, "sign", cX12_sign, 1, (some .int), 1)
set_option maxRecDepth 100000 in
set_option maxHeartbeats 8000000 in
theorem t_X12_sign {l : Launch} {G : Gh} {M : Mem} {p0 : Int32} {q : Int32} (h : f_X12_sign p0 = some q) : Ctr l G yX12_sign Y_X12_sign M [.int p0] M (some (.int q)) := by
  refine Ctr.of (Y := Y_X12_sign) (L := [some (.int p0)]) (t := Option.bind (f_X12_sign p0) (fun q => some (M, some (.int q)))) (by decide) rfl rfl (nle rfl) (Lof_in 0 _ rfl) (fun X hG hl => ?_) (by rw [h]; rfl)
  subst hG
  subst hl
  unfold f_X12_sign
  refine s_bipush (pc := 0) 100 dX12_sign_0 kb_100 ?_
  refine s_iload_n (pc := 2) 0 dX12_sign_2 rfl rfl ?_
  refine s_iadd (pc := 3) dX12_sign_3 ?_
  exact s_iret rfl dX12_sign_4
set_option maxRecDepth 100000 in
set_option maxHeartbeats 8000000 in
noncomputable def f_X12_small (p0 : Int64) : Option Int32 :=
  if (lg_cmp p0 0) < 0 then (some (-1)) else (if (lg_cmp p0 1000000) ≤ 0 then (some p0.toInt32) else (some (-1)))
abbrev Y_X12_small : Sta := (RX12, "small", cX12_small, 2, (some .int), 1)
set_option maxRecDepth 100000 in
set_option maxHeartbeats 8000000 in
theorem t_X12_small {l : Launch} {G : Gh} {M : Mem} {p0 : Int64} {q : Int32} (h : f_X12_small p0 = some q) : Ctr l G yX12_small Y_X12_small M [.long p0] M (some (.int q)) := by
  refine Ctr.of (Y := Y_X12_small) (L := [some (.long p0), none]) (t := Option.bind (f_X12_small p0) (fun q => some (M, some (.int q)))) (by decide) rfl rfl (nle rfl) (Lof_in 0 _ rfl) (fun X hG hl => ?_) (by rw [h]; rfl)
  subst hG
  subst hl
  unfold f_X12_small
  refine s_lload_n (pc := 0) 0 dX12_small_0 rfl rfl ?_
  refine s_lconst (pc := 1) 0 dX12_small_1 kl_0 ?_
  refine s_lcmp (pc := 2) dX12_small_2 ?_
  refine s_iflt (pc := 3) 14 dX12_small_3 rfl ?_ ?_
  · refine s_iconst (pc := 14) (-1) dX12_small_14 kc_m1 ?_
    refine s_goto (pc := 15) 20 dX12_small_15 rfl ?_
    exact s_iret rfl dX12_small_20
  · refine s_lload_n (pc := 6) 0 dX12_small_6 rfl rfl ?_
    refine s_ldc2 (pc := 7) dX12_small_7 kl_X12_450 ?_
    refine s_lcmp (pc := 10) dX12_small_10 ?_
    refine s_ifle (pc := 11) 18 dX12_small_11 rfl ?_ ?_
    · refine s_lload_n (pc := 18) 0 dX12_small_18 rfl rfl ?_
      refine s_l2i (pc := 19) dX12_small_19 ?_
      exact s_iret rfl dX12_small_20
    · refine s_iconst (pc := 14) (-1) dX12_small_14 kc_m1 ?_
      refine s_goto (pc := 15) 20 dX12_small_15 rfl ?_
      exact s_iret rfl dX12_small_20
set_option maxRecDepth 100000 in
set_option maxHeartbeats 8000000 in
noncomputable def f_X12_status (M : Mem) (a0 : Nat) : Option Int32 :=
  grd (okO M 12 a0) (some (mI M a0 0))
abbrev Y_X12_status : Sta := (RX12, "status", cX12_status, 1, (some .int), 1)
set_option maxRecDepth 100000 in
set_option maxHeartbeats 8000000 in
theorem t_X12_status {l : Launch} {G : Gh} {M : Mem} {a0 : Nat} {q : Int32} (h : f_X12_status M a0 = some q) : Ctr l G yX12_status Y_X12_status M [.ref (gh G + a0)] M (some (.int q)) := by
  refine Ctr.of (Y := Y_X12_status) (L := [some (.ref (gh G + a0))]) (t := Option.bind (f_X12_status M a0) (fun q => some (M, some (.int q)))) (by decide) rfl rfl (nle rfl) (Lof_in 0 _ rfl) (fun X hG hl => ?_) (by rw [h]; rfl)
  subst hG
  subst hl
  unfold f_X12_status
  refine s_aload_n (pc := 0) 0 dX12_status_0 rfl rfl ?_
  refine s_grd (fun o1 => ?_)
  refine s_geti (pc := 1) F_12 0 rfl o1 dX12_status_1 kf_X12_3 ?_
  exact s_iret rfl dX12_status_4
set_option maxRecDepth 100000 in
set_option maxHeartbeats 8000000 in
noncomputable def f_X12_stopped (M : Mem) (a0 : Nat) : Option Int32 :=
  grd (okO M 12 a0) (some (mI M a0 46))
abbrev Y_X12_stopped : Sta := (RX12, "stopped", cX12_stopped, 1, (some .int), 1)
set_option maxRecDepth 100000 in
set_option maxHeartbeats 8000000 in
theorem t_X12_stopped {l : Launch} {G : Gh} {M : Mem} {a0 : Nat} {q : Int32} (h : f_X12_stopped M a0 = some q) : Ctr l G yX12_stopped Y_X12_stopped M [.ref (gh G + a0)] M (some (.int q)) := by
  refine Ctr.of (Y := Y_X12_stopped) (L := [some (.ref (gh G + a0))]) (t := Option.bind (f_X12_stopped M a0) (fun q => some (M, some (.int q)))) (by decide) rfl rfl (nle rfl) (Lof_in 0 _ rfl) (fun X hG hl => ?_) (by rw [h]; rfl)
  subst hG
  subst hl
  unfold f_X12_stopped
  refine s_aload_n (pc := 0) 0 dX12_stopped_0 rfl rfl ?_
  refine s_grd (fun o1 => ?_)
  refine s_geti (pc := 1) F_12 46 rfl o1 dX12_stopped_1 kf_X12_111 ?_
  exact s_iret rfl dX12_stopped_4
set_option maxRecDepth 100000 in
set_option maxHeartbeats 8000000 in
noncomputable def f_X12_wordOf (M : Mem) (a0 : Nat) (p1 : Int32) (p2 : Int32) : Option Int32 :=
  Option.bind (loopO (σ := Int32 × Int32) (ρ := Unit ⊕ Int32) (fun s1 => grd (okO M 12 a0) (Option.bind (mR M a0 13) (fun r14 => grd (okO M 13 r14) (if (nI (mL M r14)) ≤ s1.2 then (some (.inr (.inl ()))) else (Option.bind (loopO (σ := Int32) (ρ := Int32) (fun s16 => Option.bind (mR M a0 13) (fun r24 => grd (okO M 13 r24) (grd (vp_in (s1.2 + s16) (mL M r24)) (if (mI M r24 (s1.2 + s16).toNatClampNeg) = 32 then (some (.inr s16)) else (bv (s16 + 1 : Int32) (fun x27 => some (.inl x27))))))) 0) (fun (x22 : Int32) => bv (fun (s29 : Int32) => Option.bind (loopO (σ := Int32 × Int32) (ρ := Int32) (fun s32 => if x22 ≤ s32.2 then (some (.inr s32.1)) else (if s32.1 = 0 then (some (.inr s32.1)) else (Option.bind (mR M a0 13) (fun r40 => grd (okO M 13 r40) (grd (vp_in (s1.2 + s32.2) (mL M r40)) (Option.bind (mR M a0 15) (fun r43 => grd (okO M 13 r43) (grd (vp_in (p1 + s32.2) (mL M r43)) (bv (fun (s47 : Int32) => bv (s32.2 + 1 : Int32) (fun x50 => some (.inl (s47, x50)))) (fun j46 => if (mI M r40 (s1.2 + s32.2).toNatClampNeg) = (mI M r43 (p1 + s32.2).toNatClampNeg) then (j46 1) else (j46 0))))))))))) (s29, 0)) (fun (x38 : Int32) => if x38 = 0 then (bv (s1.2 + (x22 + 1) : Int32) (fun x51 => bv (s1.1 + 1 : Int32) (fun x52 => some (.inl (x52, x51))))) else (some (.inr (.inr s1.1))))) (fun j28 => if x22 = (p2 - p1) then (j28 1) else (j28 0)))))))) (1, 0)) (Sum.elim (fun (x9 : Unit) => some 0) (fun (x11 : Int32) => some x11))
abbrev Y_X12_wordOf : Sta := (RX12, "wordOf", cX12_wordOf, 8, (some .int), 1)
set_option maxRecDepth 100000 in
set_option maxHeartbeats 8000000 in
theorem t_X12_wordOf {l : Launch} {G : Gh} {M : Mem} {a0 : Nat} {p1 : Int32} {p2 : Int32} {q : Int32} (h : f_X12_wordOf M a0 p1 p2 = some q) : Ctr l G yX12_wordOf Y_X12_wordOf M [.ref (gh G + a0), .int p1, .int p2] M (some (.int q)) := by
  refine Ctr.of (Y := Y_X12_wordOf) (L := [some (.ref (gh G + a0)), some (.int p1), some (.int p2), none, none, none, none, none]) (t := Option.bind (f_X12_wordOf M a0 p1 p2) (fun q => some (M, some (.int q)))) (by decide) rfl rfl (nle rfl) (Lof_in 5 _ rfl) (fun X hG hl => ?_) (by rw [h]; rfl)
  subst hG
  subst hl
  unfold f_X12_wordOf
  refine s_iconst (pc := 0) 1 dX12_wordOf_0 kc_1 ?_
  refine s_istore_n (pc := 1) 3 dX12_wordOf_1 rfl (nlt rfl) rfl (L' := [some (.ref (gh (xG X) + a0)), some (.int p1), some (.int p2), some (.int 1), none, none, none, none]) rfl ?_
  refine s_iconst (pc := 2) 0 dX12_wordOf_2 kc_0 ?_
  refine s_istore (pc := 3) dX12_wordOf_3 (nlt rfl) rfl (L' := [some (.ref (gh (xG X) + a0)), some (.int p1), some (.int p2), some (.int 1), some (.int 0), none, none, none]) rfl ?_
  refine s_drop (L' := [some (.ref (gh (xG X) + a0)), some (.int p1), some (.int p2), some (.int 1), some (.int 0), none, none, none]) ?_ (And.intro rfl (And.intro rfl (And.intro rfl (And.intro rfl (And.intro rfl trivial)))))
  refine s_loop2 M (fun s1 : Int32 × Int32 => M) (fun s1 : Int32 × Int32 => [some (.ref (gh (xG X) + a0)), some (.int p1), some (.int p2), some (.int s1.1), some (.int s1.2), none, none, none]) (fun x9 : Unit => M) 126 (fun x9 : Unit => [none, none, none, none, none, none, none, none]) (fun x11 : Int32 => M) 109 (fun x11 : Int32 => [none, none, none, some (.int x11), none, none, none, none]) (fun x9 hx10 => ?_) (fun x11 hx12 => ?_) (fun T3 R5 R7 hT4 hR6 hR8 s1 hs2 => ?_) (1, 0) Le.rf
  · show S0 X _ M 126 [none, none, none, none, none, none, none, none] [] _
    refine s_iconst (pc := 126) 0 dX12_wordOf_126 kc_0 ?_
    exact s_iret rfl dX12_wordOf_127
  · show S0 X _ M 109 [none, none, none, some (.int x11), none, none, none, none] [] _
    refine s_iload_n (pc := 109) 3 dX12_wordOf_109 rfl rfl ?_
    exact s_iret rfl dX12_wordOf_110
  · show S0 X _ M 5 [some (.ref (gh (xG X) + a0)), some (.int p1), some (.int p2), some (.int s1.1), some (.int s1.2), none, none, none] [] _
    refine s_iload (pc := 5) dX12_wordOf_5 rfl ?_
    refine s_aload_n (pc := 7) 0 dX12_wordOf_7 rfl rfl ?_
    refine s_grd (fun o13 => ?_)
    refine s_geto (pc := 8) F_12 13 rfl o13 dX12_wordOf_8 kf_X12_39 ?_
    refine s_rvB (fun r14 => ?_)
    refine s_grd (fun o15 => ?_)
    refine s_alen (pc := 11) 13 (And.intro (nle rfl) (nle rfl)) o15 dX12_wordOf_11 ?_
    refine s_icge (pc := 12) 126 dX12_wordOf_12 rfl ?_ ?_
    · exact s_drop (hR6 () Le.rf) trivial
    · refine s_iconst (pc := 15) 0 dX12_wordOf_15 kc_0 ?_
      refine s_istore (pc := 16) dX12_wordOf_16 (nlt rfl) rfl (L' := [some (.ref (gh (xG X) + a0)), some (.int p1), some (.int p2), some (.int s1.1), some (.int s1.2), some (.int 0), none, none]) rfl ?_
      refine s_drop (L' := [some (.ref (gh (xG X) + a0)), some (.int p1), some (.int p2), some (.int s1.1), some (.int s1.2), some (.int 0), none, none]) ?_ (And.intro rfl (And.intro rfl (And.intro rfl (And.intro rfl (And.intro rfl (And.intro rfl trivial))))))
      refine s_loop1 M (fun s16 : Int32 => M) (fun s16 : Int32 => [some (.ref (gh (xG X) + a0)), some (.int p1), some (.int p2), some (.int s1.1), some (.int s1.2), some (.int s16), none, none]) (fun x22 : Int32 => M) 39 (fun x22 : Int32 => [some (.ref (gh (xG X) + a0)), some (.int p1), some (.int p2), some (.int s1.1), some (.int s1.2), some (.int x22), none, none]) (fun x22 hx23 => ?_) (fun T18 R20 hT19 hR21 s16 hs17 => ?_) 0 Le.rf
      · show S0 X _ M 39 [some (.ref (gh (xG X) + a0)), some (.int p1), some (.int p2), some (.int s1.1), some (.int s1.2), some (.int x22), none, none] [] _
        refine s_iload (pc := 39) dX12_wordOf_39 rfl ?_
        refine s_iload_n (pc := 41) 2 dX12_wordOf_41 rfl rfl ?_
        refine s_iload_n (pc := 42) 1 dX12_wordOf_42 rfl rfl ?_
        refine s_isub (pc := 43) dX12_wordOf_43 ?_
        refine s_join M (fun s29 : Int32 => M) 52 (fun s29 : Int32 => [some (.ref (gh (xG X) + a0)), some (.int p1), some (.int p2), some (.int s1.1), some (.int s1.2), some (.int x22), none, none]) (fun s29 : Int32 => [.int s29]) (fun s29 hs30 => ?_) (fun j28 hj31 => ?_)
        · show S0 X _ M 52 [some (.ref (gh (xG X) + a0)), some (.int p1), some (.int p2), some (.int s1.1), some (.int s1.2), some (.int x22), none, none] [.int s29] _
          refine s_istore (pc := 52) dX12_wordOf_52 (nlt rfl) rfl (L' := [some (.ref (gh (xG X) + a0)), some (.int p1), some (.int p2), some (.int s1.1), some (.int s1.2), some (.int x22), some (.int s29), none]) rfl ?_
          refine s_iconst (pc := 54) 0 dX12_wordOf_54 kc_0 ?_
          refine s_istore (pc := 55) dX12_wordOf_55 (nlt rfl) rfl (L' := [some (.ref (gh (xG X) + a0)), some (.int p1), some (.int p2), some (.int s1.1), some (.int s1.2), some (.int x22), some (.int s29), some (.int 0)]) rfl ?_
          refine s_drop (L' := [some (.ref (gh (xG X) + a0)), some (.int p1), some (.int p2), some (.int s1.1), some (.int s1.2), some (.int x22), some (.int s29), some (.int 0)]) ?_ (And.intro rfl (And.intro rfl (And.intro rfl (And.intro rfl (And.intro rfl (And.intro rfl (And.intro rfl (And.intro rfl trivial))))))))
          refine s_loop1 M (fun s32 : Int32 × Int32 => M) (fun s32 : Int32 × Int32 => [some (.ref (gh (xG X) + a0)), some (.int p1), some (.int p2), some (.int s1.1), some (.int s1.2), some (.int x22), some (.int s32.1), some (.int s32.2)]) (fun x38 : Int32 => M) 104 (fun x38 : Int32 => [some (.ref (gh (xG X) + a0)), some (.int p1), some (.int p2), some (.int s1.1), some (.int s1.2), some (.int x22), some (.int x38), none]) (fun x38 hx39 => ?_) (fun T34 R36 hT35 hR37 s32 hs33 => ?_) (s29, 0) Le.rf
          · show S0 X _ M 104 [some (.ref (gh (xG X) + a0)), some (.int p1), some (.int p2), some (.int s1.1), some (.int s1.2), some (.int x22), some (.int x38), none] [] _
            refine s_iload (pc := 104) dX12_wordOf_104 rfl ?_
            refine s_ifeq (pc := 106) 111 dX12_wordOf_106 rfl ?_ ?_
            · refine s_iload (pc := 111) dX12_wordOf_111 rfl ?_
              refine s_iload (pc := 113) dX12_wordOf_113 rfl ?_
              refine s_iconst (pc := 115) 1 dX12_wordOf_115 kc_1 ?_
              refine s_iadd (pc := 116) dX12_wordOf_116 ?_
              refine s_iadd (pc := 117) dX12_wordOf_117 ?_
              refine s_istore (pc := 118) dX12_wordOf_118 (nlt rfl) rfl (L' := [some (.ref (gh (xG X) + a0)), some (.int p1), some (.int p2), some (.int s1.1), some (.int (s1.2 + (x22 + 1))), some (.int x22), some (.int x38), none]) rfl ?_
              refine s_bv (fun x51 : Int32 => [some (.ref (gh (xG X) + a0)), some (.int p1), some (.int p2), some (.int s1.1), some (.int x51), some (.int x22), some (.int x38), none]) (fun x51 => ?_) rfl
              refine s_iinc (pc := 120) dX12_wordOf_120 rfl (v := s1.1 + 1) (congrArg (fun z : Int32 => s1.1 + z) kc_1) (nlt rfl) rfl (L' := [some (.ref (gh (xG X) + a0)), some (.int p1), some (.int p2), some (.int (s1.1 + 1)), some (.int x51), some (.int x22), some (.int x38), none]) rfl ?_
              refine s_bv (fun x52 : Int32 => [some (.ref (gh (xG X) + a0)), some (.int p1), some (.int p2), some (.int x52), some (.int x51), some (.int x22), some (.int x38), none]) (fun x52 => ?_) rfl
              refine s_goto (pc := 123) 5 dX12_wordOf_123 rfl ?_
              exact s_drop (hT4 (x52, x51) Le.rf) (And.intro rfl (And.intro rfl (And.intro rfl (And.intro rfl (And.intro rfl trivial)))))
            · exact s_drop (hR8 s1.1 Le.rf) (And.intro rfl trivial)
          · show S0 X _ M 57 [some (.ref (gh (xG X) + a0)), some (.int p1), some (.int p2), some (.int s1.1), some (.int s1.2), some (.int x22), some (.int s32.1), some (.int s32.2)] [] _
            refine s_iload (pc := 57) dX12_wordOf_57 rfl ?_
            refine s_iload (pc := 59) dX12_wordOf_59 rfl ?_
            refine s_icge (pc := 61) 104 dX12_wordOf_61 rfl ?_ ?_
            · exact s_drop (hR37 s32.1 Le.rf) (And.intro rfl (And.intro rfl (And.intro rfl (And.intro rfl (And.intro rfl (And.intro rfl (And.intro rfl trivial)))))))
            · refine s_iload (pc := 64) dX12_wordOf_64 rfl ?_
              refine s_ifeq (pc := 66) 104 dX12_wordOf_66 rfl ?_ ?_
              · exact s_drop (hR37 s32.1 Le.rf) (And.intro rfl (And.intro rfl (And.intro rfl (And.intro rfl (And.intro rfl (And.intro rfl (And.intro rfl trivial)))))))
              · refine s_aload_n (pc := 69) 0 dX12_wordOf_69 rfl rfl ?_
                refine s_geto (pc := 70) F_12 13 rfl o13 dX12_wordOf_70 kf_X12_39 ?_
                refine s_rvB (fun r40 => ?_)
                refine s_iload (pc := 73) dX12_wordOf_73 rfl ?_
                refine s_iload (pc := 75) dX12_wordOf_75 rfl ?_
                refine s_iadd (pc := 77) dX12_wordOf_77 ?_
                refine s_grd (fun o41 => ?_)
                refine s_grd (fun i42 => ?_)
                refine s_bald (pc := 78) o41 i42 dX12_wordOf_78 ?_
                refine s_aload_n (pc := 79) 0 dX12_wordOf_79 rfl rfl ?_
                refine s_geto (pc := 80) F_12 15 rfl o13 dX12_wordOf_80 kf_X12_43 ?_
                refine s_rvB (fun r43 => ?_)
                refine s_iload_n (pc := 83) 1 dX12_wordOf_83 rfl rfl ?_
                refine s_iload (pc := 84) dX12_wordOf_84 rfl ?_
                refine s_iadd (pc := 86) dX12_wordOf_86 ?_
                refine s_grd (fun o44 => ?_)
                refine s_grd (fun i45 => ?_)
                refine s_bald (pc := 87) o44 i45 dX12_wordOf_87 ?_
                refine s_join M (fun s47 : Int32 => M) 96 (fun s47 : Int32 => [some (.ref (gh (xG X) + a0)), some (.int p1), some (.int p2), some (.int s1.1), some (.int s1.2), some (.int x22), none, some (.int s32.2)]) (fun s47 : Int32 => [.int s47]) (fun s47 hs48 => ?_) (fun j46 hj49 => ?_)
                · show S0 X _ M 96 [some (.ref (gh (xG X) + a0)), some (.int p1), some (.int p2), some (.int s1.1), some (.int s1.2), some (.int x22), none, some (.int s32.2)] [.int s47] _
                  refine s_istore (pc := 96) dX12_wordOf_96 (nlt rfl) rfl (L' := [some (.ref (gh (xG X) + a0)), some (.int p1), some (.int p2), some (.int s1.1), some (.int s1.2), some (.int x22), some (.int s47), some (.int s32.2)]) rfl ?_
                  refine s_iinc (pc := 98) dX12_wordOf_98 rfl (v := s32.2 + 1) (congrArg (fun z : Int32 => s32.2 + z) kc_1) (nlt rfl) rfl (L' := [some (.ref (gh (xG X) + a0)), some (.int p1), some (.int p2), some (.int s1.1), some (.int s1.2), some (.int x22), some (.int s47), some (.int (s32.2 + 1))]) rfl ?_
                  refine s_bv (fun x50 : Int32 => [some (.ref (gh (xG X) + a0)), some (.int p1), some (.int p2), some (.int s1.1), some (.int s1.2), some (.int x22), some (.int s47), some (.int x50)]) (fun x50 => ?_) rfl
                  refine s_goto (pc := 101) 57 dX12_wordOf_101 rfl ?_
                  exact s_drop (hT35 (s47, x50) Le.rf) (And.intro rfl (And.intro rfl (And.intro rfl (And.intro rfl (And.intro rfl (And.intro rfl (And.intro rfl (And.intro rfl trivial))))))))
                · refine s_icne (pc := 88) 95 dX12_wordOf_88 rfl ?_ ?_
                  · refine s_iconst (pc := 95) 0 dX12_wordOf_95 kc_0 ?_
                    exact s_drop (hj49 0 Le.rf) (And.intro rfl (And.intro rfl (And.intro rfl (And.intro rfl (And.intro rfl (And.intro rfl (And.intro rfl trivial)))))))
                  · refine s_iconst (pc := 91) 1 dX12_wordOf_91 kc_1 ?_
                    refine s_goto (pc := 92) 96 dX12_wordOf_92 rfl ?_
                    exact s_drop (hj49 1 Le.rf) (And.intro rfl (And.intro rfl (And.intro rfl (And.intro rfl (And.intro rfl (And.intro rfl (And.intro rfl trivial)))))))
        · refine s_icne (pc := 44) 51 dX12_wordOf_44 rfl ?_ ?_
          · refine s_iconst (pc := 51) 0 dX12_wordOf_51 kc_0 ?_
            exact s_drop (hj31 0 Le.rf) (And.intro rfl (And.intro rfl (And.intro rfl (And.intro rfl (And.intro rfl (And.intro rfl trivial))))))
          · refine s_iconst (pc := 47) 1 dX12_wordOf_47 kc_1 ?_
            refine s_goto (pc := 48) 52 dX12_wordOf_48 rfl ?_
            exact s_drop (hj31 1 Le.rf) (And.intro rfl (And.intro rfl (And.intro rfl (And.intro rfl (And.intro rfl (And.intro rfl trivial))))))
      · show S0 X _ M 18 [some (.ref (gh (xG X) + a0)), some (.int p1), some (.int p2), some (.int s1.1), some (.int s1.2), some (.int s16), none, none] [] _
        refine s_aload_n (pc := 18) 0 dX12_wordOf_18 rfl rfl ?_
        refine s_geto (pc := 19) F_12 13 rfl o13 dX12_wordOf_19 kf_X12_39 ?_
        refine s_rvB (fun r24 => ?_)
        refine s_iload (pc := 22) dX12_wordOf_22 rfl ?_
        refine s_iload (pc := 24) dX12_wordOf_24 rfl ?_
        refine s_iadd (pc := 26) dX12_wordOf_26 ?_
        refine s_grd (fun o25 => ?_)
        refine s_grd (fun i26 => ?_)
        refine s_bald (pc := 27) o25 i26 dX12_wordOf_27 ?_
        refine s_bipush (pc := 28) 32 dX12_wordOf_28 kb_32 ?_
        refine s_iceq (pc := 30) 39 dX12_wordOf_30 rfl ?_ ?_
        · exact s_drop (hR21 s16 Le.rf) (And.intro rfl (And.intro rfl (And.intro rfl (And.intro rfl (And.intro rfl (And.intro rfl trivial))))))
        · refine s_iinc (pc := 33) dX12_wordOf_33 rfl (v := s16 + 1) (congrArg (fun z : Int32 => s16 + z) kc_1) (nlt rfl) rfl (L' := [some (.ref (gh (xG X) + a0)), some (.int p1), some (.int p2), some (.int s1.1), some (.int s1.2), some (.int (s16 + 1)), none, none]) rfl ?_
          refine s_bv (fun x27 : Int32 => [some (.ref (gh (xG X) + a0)), some (.int p1), some (.int p2), some (.int s1.1), some (.int s1.2), some (.int x27), none, none]) (fun x27 => ?_) rfl
          refine s_goto (pc := 36) 18 dX12_wordOf_36 rfl ?_
          exact s_drop (hT19 x27 Le.rf) (And.intro rfl (And.intro rfl (And.intro rfl (And.intro rfl (And.intro rfl (And.intro rfl trivial))))))
set_option maxRecDepth 100000 in
set_option maxHeartbeats 8000000 in
noncomputable def f_X1_hasMade (M : Mem) (a0 : Nat) (p1 : Int32) : Option Int32 :=
  Option.bind (loopO (σ := Int32) (ρ := Unit ⊕ Unit) (fun s1 => grd (okO M 1 a0) (if (mI M a0 5) ≤ s1 then (some (.inr (.inl ()))) else (Option.bind (mR M a0 3) (fun r14 => grd (okO M 14 r14) (grd (vp_in s1 (mL M r14)) (if (mI M r14 s1.toNatClampNeg) = p1 then (some (.inr (.inr ()))) else (bv (s1 + 1 : Int32) (fun x17 => some (.inl x17))))))))) 0) (Sum.elim (fun (x9 : Unit) => some 0) (fun (x11 : Unit) => some 1))
abbrev Y_X1_hasMade : Sta := (RX1, "hasMade", cX1_hasMade, 3, (some .boolean), 1)
set_option maxRecDepth 100000 in
set_option maxHeartbeats 8000000 in
theorem t_X1_hasMade {l : Launch} {G : Gh} {M : Mem} {a0 : Nat} {p1 : Int32} {q : Int32} (h : f_X1_hasMade M a0 p1 = some q) : Ctr l G yX1_hasMade Y_X1_hasMade M [.ref (gh G + a0), .int p1] M (some (.int q)) := by
  refine Ctr.of (Y := Y_X1_hasMade) (L := [some (.ref (gh G + a0)), some (.int p1), none]) (t := Option.bind (f_X1_hasMade M a0 p1) (fun q => some (M, some (.int q)))) (by decide) rfl rfl (nle rfl) (Lof_in 1 _ rfl) (fun X hG hl => ?_) (by rw [h]; rfl)
  subst hG
  subst hl
  unfold f_X1_hasMade
  refine s_iconst (pc := 0) 0 dX1_hasMade_0 kc_0 ?_
  refine s_istore_n (pc := 1) 2 dX1_hasMade_1 rfl (nlt rfl) rfl (L' := [some (.ref (gh (xG X) + a0)), some (.int p1), some (.int 0)]) rfl ?_
  refine s_drop (L' := [some (.ref (gh (xG X) + a0)), some (.int p1), some (.int 0)]) ?_ (And.intro rfl (And.intro rfl (And.intro rfl trivial)))
  refine s_loop2 M (fun s1 : Int32 => M) (fun s1 : Int32 => [some (.ref (gh (xG X) + a0)), some (.int p1), some (.int s1)]) (fun x9 : Unit => M) 28 (fun x9 : Unit => [none, none, none]) (fun x11 : Unit => M) 20 (fun x11 : Unit => [none, none, none]) (fun x9 hx10 => ?_) (fun x11 hx12 => ?_) (fun T3 R5 R7 hT4 hR6 hR8 s1 hs2 => ?_) 0 Le.rf
  · show S0 X _ M 28 [none, none, none] [] _
    refine s_iconst (pc := 28) 0 dX1_hasMade_28 kc_0 ?_
    exact s_zret rfl rfl dX1_hasMade_29
  · show S0 X _ M 20 [none, none, none] [] _
    refine s_iconst (pc := 20) 1 dX1_hasMade_20 kc_1 ?_
    exact s_zret rfl rfl dX1_hasMade_21
  · show S0 X _ M 2 [some (.ref (gh (xG X) + a0)), some (.int p1), some (.int s1)] [] _
    refine s_iload_n (pc := 2) 2 dX1_hasMade_2 rfl rfl ?_
    refine s_aload_n (pc := 3) 0 dX1_hasMade_3 rfl rfl ?_
    refine s_grd (fun o13 => ?_)
    refine s_geti (pc := 4) F_1 5 rfl o13 dX1_hasMade_4 kf_X1_82 ?_
    refine s_icge (pc := 7) 28 dX1_hasMade_7 rfl ?_ ?_
    · exact s_drop (hR6 () Le.rf) trivial
    · refine s_aload_n (pc := 10) 0 dX1_hasMade_10 rfl rfl ?_
      refine s_geto (pc := 11) F_1 3 rfl o13 dX1_hasMade_11 kf_X1_18 ?_
      refine s_rvB (fun r14 => ?_)
      refine s_iload_n (pc := 14) 2 dX1_hasMade_14 rfl rfl ?_
      refine s_grd (fun o15 => ?_)
      refine s_grd (fun i16 => ?_)
      refine s_iald (pc := 15) o15 i16 dX1_hasMade_15 ?_
      refine s_iload_n (pc := 16) 1 dX1_hasMade_16 rfl rfl ?_
      refine s_icne (pc := 17) 22 dX1_hasMade_17 rfl ?_ ?_
      · refine s_iinc (pc := 22) dX1_hasMade_22 rfl (v := s1 + 1) (congrArg (fun z : Int32 => s1 + z) kc_1) (nlt rfl) rfl (L' := [some (.ref (gh (xG X) + a0)), some (.int p1), some (.int (s1 + 1))]) rfl ?_
        refine s_bv (fun x17 : Int32 => [some (.ref (gh (xG X) + a0)), some (.int p1), some (.int x17)]) (fun x17 => ?_) rfl
        refine s_goto (pc := 25) 2 dX1_hasMade_25 rfl ?_
        exact s_drop (hT4 x17 Le.rf) (And.intro rfl (And.intro rfl (And.intro rfl trivial)))
      · exact s_drop (hR8 () Le.rf) trivial
set_option maxRecDepth 100000 in
set_option maxHeartbeats 8000000 in
noncomputable def f_X1_lowestMade (M : Mem) (a0 : Nat) (p1 : Int32) (a2 : Nat) (p3 : Int32) : Option Int32 :=
  Option.bind (loopO (σ := Int32 × Int32) (ρ := Int32) (fun s1 => grd (okO M 1 a0) (if (mI M a0 5) ≤ s1.2 then (some (.inr s1.1)) else (Option.bind (mR M a0 3) (fun r10 => grd (okO M 14 r10) (grd (vp_in s1.2 (mL M r10)) (bv (mI M r10 s1.2.toNatClampNeg : Int32) (fun x13 => bv (fun (s15 : Int32) => bv (s1.2 + 1 : Int32) (fun x18 => some (.inl (s15, x18)))) (fun j14 => if x13 ≤ p1 then (j14 s1.1) else (bv (fun (s20 : Unit) => grd (okO M 2 a2) (Option.bind (mR M a2 2) (fun r24 => grd (okO M 16 r24) (grd (vp_in x13 (mL M r24)) (if (mI M r24 x13.toNatClampNeg) = p3 then (j14 x13) else (j14 s1.1)))))) (fun j19 => if s1.1 = (-1) then (j19 ()) else (if s1.1 ≤ x13 then (j14 s1.1) else (j19 ())))))))))))) ((-1), 0)) (fun (x7 : Int32) => some x7)
abbrev Y_X1_lowestMade : Sta := (RX1, "lowestMade", cX1_lowestMade, 7, (some .int), 1)
set_option maxRecDepth 100000 in
set_option maxHeartbeats 8000000 in
theorem t_X1_lowestMade {l : Launch} {G : Gh} {M : Mem} {a0 : Nat} {p1 : Int32} {a2 : Nat} {p3 : Int32} {q : Int32} (h : f_X1_lowestMade M a0 p1 a2 p3 = some q) : Ctr l G yX1_lowestMade Y_X1_lowestMade M [.ref (gh G + a0), .int p1, .ref (gh G + a2), .int p3] M (some (.int q)) := by
  refine Ctr.of (Y := Y_X1_lowestMade) (L := [some (.ref (gh G + a0)), some (.int p1), some (.ref (gh G + a2)), some (.int p3), none, none, none]) (t := Option.bind (f_X1_lowestMade M a0 p1 a2 p3) (fun q => some (M, some (.int q)))) (by decide) rfl rfl (nle rfl) (Lof_in 3 _ rfl) (fun X hG hl => ?_) (by rw [h]; rfl)
  subst hG
  subst hl
  unfold f_X1_lowestMade
  refine s_iconst (pc := 0) (-1) dX1_lowestMade_0 kc_m1 ?_
  refine s_istore (pc := 1) dX1_lowestMade_1 (nlt rfl) rfl (L' := [some (.ref (gh (xG X) + a0)), some (.int p1), some (.ref (gh (xG X) + a2)), some (.int p3), some (.int (-1)), none, none]) rfl ?_
  refine s_iconst (pc := 3) 0 dX1_lowestMade_3 kc_0 ?_
  refine s_istore (pc := 4) dX1_lowestMade_4 (nlt rfl) rfl (L' := [some (.ref (gh (xG X) + a0)), some (.int p1), some (.ref (gh (xG X) + a2)), some (.int p3), some (.int (-1)), some (.int 0), none]) rfl ?_
  refine s_drop (L' := [some (.ref (gh (xG X) + a0)), some (.int p1), some (.ref (gh (xG X) + a2)), some (.int p3), some (.int (-1)), some (.int 0), none]) ?_ (And.intro rfl (And.intro rfl (And.intro rfl (And.intro rfl (And.intro rfl (And.intro rfl trivial))))))
  refine s_loop1 M (fun s1 : Int32 × Int32 => M) (fun s1 : Int32 × Int32 => [some (.ref (gh (xG X) + a0)), some (.int p1), some (.ref (gh (xG X) + a2)), some (.int p3), some (.int s1.1), some (.int s1.2), none]) (fun x7 : Int32 => M) 64 (fun x7 : Int32 => [none, none, none, none, some (.int x7), none, none]) (fun x7 hx8 => ?_) (fun T3 R5 hT4 hR6 s1 hs2 => ?_) ((-1), 0) Le.rf
  · show S0 X _ M 64 [none, none, none, none, some (.int x7), none, none] [] _
    refine s_iload (pc := 64) dX1_lowestMade_64 rfl ?_
    exact s_iret rfl dX1_lowestMade_66
  · show S0 X _ M 6 [some (.ref (gh (xG X) + a0)), some (.int p1), some (.ref (gh (xG X) + a2)), some (.int p3), some (.int s1.1), some (.int s1.2), none] [] _
    refine s_iload (pc := 6) dX1_lowestMade_6 rfl ?_
    refine s_aload_n (pc := 8) 0 dX1_lowestMade_8 rfl rfl ?_
    refine s_grd (fun o9 => ?_)
    refine s_geti (pc := 9) F_1 5 rfl o9 dX1_lowestMade_9 kf_X1_82 ?_
    refine s_icge (pc := 12) 64 dX1_lowestMade_12 rfl ?_ ?_
    · exact s_drop (hR6 s1.1 Le.rf) (And.intro rfl trivial)
    · refine s_aload_n (pc := 15) 0 dX1_lowestMade_15 rfl rfl ?_
      refine s_geto (pc := 16) F_1 3 rfl o9 dX1_lowestMade_16 kf_X1_18 ?_
      refine s_rvB (fun r10 => ?_)
      refine s_iload (pc := 19) dX1_lowestMade_19 rfl ?_
      refine s_grd (fun o11 => ?_)
      refine s_grd (fun i12 => ?_)
      refine s_iald (pc := 21) o11 i12 dX1_lowestMade_21 ?_
      refine s_istore (pc := 22) dX1_lowestMade_22 (nlt rfl) rfl (L' := [some (.ref (gh (xG X) + a0)), some (.int p1), some (.ref (gh (xG X) + a2)), some (.int p3), some (.int s1.1), some (.int s1.2), some (.int (mI M r10 s1.2.toNatClampNeg))]) rfl ?_
      refine s_bv (fun x13 : Int32 => [some (.ref (gh (xG X) + a0)), some (.int p1), some (.ref (gh (xG X) + a2)), some (.int p3), some (.int s1.1), some (.int s1.2), some (.int x13)]) (fun x13 => ?_) rfl
      refine s_iload (pc := 24) dX1_lowestMade_24 rfl ?_
      refine s_iload_n (pc := 26) 1 dX1_lowestMade_26 rfl rfl ?_
      refine s_join M (fun s15 : Int32 => M) 58 (fun s15 : Int32 => [some (.ref (gh (xG X) + a0)), some (.int p1), some (.ref (gh (xG X) + a2)), some (.int p3), some (.int s15), some (.int s1.2), none]) (fun s15 : Int32 => []) (fun s15 hs16 => ?_) (fun j14 hj17 => ?_)
      · show S0 X _ M 58 [some (.ref (gh (xG X) + a0)), some (.int p1), some (.ref (gh (xG X) + a2)), some (.int p3), some (.int s15), some (.int s1.2), none] [] _
        refine s_iinc (pc := 58) dX1_lowestMade_58 rfl (v := s1.2 + 1) (congrArg (fun z : Int32 => s1.2 + z) kc_1) (nlt rfl) rfl (L' := [some (.ref (gh (xG X) + a0)), some (.int p1), some (.ref (gh (xG X) + a2)), some (.int p3), some (.int s15), some (.int (s1.2 + 1)), none]) rfl ?_
        refine s_bv (fun x18 : Int32 => [some (.ref (gh (xG X) + a0)), some (.int p1), some (.ref (gh (xG X) + a2)), some (.int p3), some (.int s15), some (.int x18), none]) (fun x18 => ?_) rfl
        refine s_goto (pc := 61) 6 dX1_lowestMade_61 rfl ?_
        exact s_drop (hT4 (s15, x18) Le.rf) (And.intro rfl (And.intro rfl (And.intro rfl (And.intro rfl (And.intro rfl (And.intro rfl trivial))))))
      · refine s_icle (pc := 27) 58 dX1_lowestMade_27 rfl ?_ ?_
        · exact s_drop (hj17 s1.1 Le.rf) (And.intro rfl (And.intro rfl (And.intro rfl (And.intro rfl (And.intro rfl (And.intro rfl trivial))))))
        · refine s_iload (pc := 30) dX1_lowestMade_30 rfl ?_
          refine s_iconst (pc := 32) (-1) dX1_lowestMade_32 kc_m1 ?_
          refine s_join M (fun s20 : Unit => M) 43 (fun s20 : Unit => [some (.ref (gh (xG X) + a0)), some (.int p1), some (.ref (gh (xG X) + a2)), some (.int p3), some (.int s1.1), some (.int s1.2), some (.int x13)]) (fun s20 : Unit => []) (fun s20 hs21 => ?_) (fun j19 hj22 => ?_)
          · show S0 X _ M 43 [some (.ref (gh (xG X) + a0)), some (.int p1), some (.ref (gh (xG X) + a2)), some (.int p3), some (.int s1.1), some (.int s1.2), some (.int x13)] [] _
            refine s_aload_n (pc := 43) 2 dX1_lowestMade_43 rfl rfl ?_
            refine s_grd (fun o23 => ?_)
            refine s_geto (pc := 44) F_2 2 rfl o23 dX1_lowestMade_44 kf_X1_92 ?_
            refine s_rvB (fun r24 => ?_)
            refine s_iload (pc := 47) dX1_lowestMade_47 rfl ?_
            refine s_grd (fun o25 => ?_)
            refine s_grd (fun i26 => ?_)
            refine s_sald (pc := 49) o25 i26 dX1_lowestMade_49 ?_
            refine s_iload_n (pc := 50) 3 dX1_lowestMade_50 rfl rfl ?_
            refine s_icne (pc := 51) 58 dX1_lowestMade_51 rfl ?_ ?_
            · exact s_drop (hj17 s1.1 Le.rf) (And.intro rfl (And.intro rfl (And.intro rfl (And.intro rfl (And.intro rfl (And.intro rfl trivial))))))
            · refine s_iload (pc := 54) dX1_lowestMade_54 rfl ?_
              refine s_istore (pc := 56) dX1_lowestMade_56 (nlt rfl) rfl (L' := [some (.ref (gh (xG X) + a0)), some (.int p1), some (.ref (gh (xG X) + a2)), some (.int p3), some (.int x13), some (.int s1.2), some (.int x13)]) rfl ?_
              exact s_drop (hj17 x13 Le.rf) (And.intro rfl (And.intro rfl (And.intro rfl (And.intro rfl (And.intro rfl (And.intro rfl trivial))))))
          · refine s_iceq (pc := 33) 43 dX1_lowestMade_33 rfl ?_ ?_
            · exact s_drop (hj22 () Le.rf) (And.intro rfl (And.intro rfl (And.intro rfl (And.intro rfl (And.intro rfl (And.intro rfl (And.intro rfl trivial)))))))
            · refine s_iload (pc := 36) dX1_lowestMade_36 rfl ?_
              refine s_iload (pc := 38) dX1_lowestMade_38 rfl ?_
              refine s_icge (pc := 40) 58 dX1_lowestMade_40 rfl ?_ ?_
              · exact s_drop (hj17 s1.1 Le.rf) (And.intro rfl (And.intro rfl (And.intro rfl (And.intro rfl (And.intro rfl (And.intro rfl trivial))))))
              · exact s_drop (hj22 () Le.rf) (And.intro rfl (And.intro rfl (And.intro rfl (And.intro rfl (And.intro rfl (And.intro rfl (And.intro rfl trivial)))))))
set_option maxRecDepth 100000 in
set_option maxHeartbeats 8000000 in
noncomputable def f_X1_madeBy (M : Mem) (a0 : Nat) (p1 : Int32) : Option Int32 :=
  Option.bind (loopO (σ := Int32 × Int32) (ρ := Unit ⊕ Int32) (fun s1 => grd (okO M 1 a0) (if (mI M a0 5) ≤ s1.2 then (some (.inr (.inl ()))) else (Option.bind (mR M a0 4) (fun r14 => grd (okO M 14 r14) (grd (vp_in s1.2 (mL M r14)) (bv (s1.1 - (mI M r14 s1.2.toNatClampNeg) : Int32) (fun x17 => if 0 ≤ x17 then (bv (s1.2 + 1 : Int32) (fun x18 => some (.inl (x17, x18)))) else (some (.inr (.inr s1.2)))))))))) (p1, 0)) (Sum.elim (fun (x9 : Unit) => some (-1)) (fun (x11 : Int32) => grd (okO M 1 a0) (Option.bind (mR M a0 3) (fun r20 => grd (okO M 14 r20) (grd (vp_in x11 (mL M r20)) (some (mI M r20 x11.toNatClampNeg)))))))
abbrev Y_X1_madeBy : Sta := (RX1, "madeBy", cX1_madeBy, 4, (some .int), 1)
set_option maxRecDepth 100000 in
set_option maxHeartbeats 8000000 in
theorem t_X1_madeBy {l : Launch} {G : Gh} {M : Mem} {a0 : Nat} {p1 : Int32} {q : Int32} (h : f_X1_madeBy M a0 p1 = some q) : Ctr l G yX1_madeBy Y_X1_madeBy M [.ref (gh G + a0), .int p1] M (some (.int q)) := by
  refine Ctr.of (Y := Y_X1_madeBy) (L := [some (.ref (gh G + a0)), some (.int p1), none, none]) (t := Option.bind (f_X1_madeBy M a0 p1) (fun q => some (M, some (.int q)))) (by decide) rfl rfl (nle rfl) (Lof_in 2 _ rfl) (fun X hG hl => ?_) (by rw [h]; rfl)
  subst hG
  subst hl
  unfold f_X1_madeBy
  refine s_iload_n (pc := 0) 1 dX1_madeBy_0 rfl rfl ?_
  refine s_istore_n (pc := 1) 2 dX1_madeBy_1 rfl (nlt rfl) rfl (L' := [some (.ref (gh (xG X) + a0)), some (.int p1), some (.int p1), none]) rfl ?_
  refine s_iconst (pc := 2) 0 dX1_madeBy_2 kc_0 ?_
  refine s_istore_n (pc := 3) 3 dX1_madeBy_3 rfl (nlt rfl) rfl (L' := [some (.ref (gh (xG X) + a0)), some (.int p1), some (.int p1), some (.int 0)]) rfl ?_
  refine s_drop (L' := [some (.ref (gh (xG X) + a0)), none, some (.int p1), some (.int 0)]) ?_ (And.intro rfl (And.intro rfl (And.intro rfl trivial)))
  refine s_loop2 M (fun s1 : Int32 × Int32 => M) (fun s1 : Int32 × Int32 => [some (.ref (gh (xG X) + a0)), none, some (.int s1.1), some (.int s1.2)]) (fun x9 : Unit => M) 38 (fun x9 : Unit => [none, none, none, none]) (fun x11 : Int32 => M) 25 (fun x11 : Int32 => [some (.ref (gh (xG X) + a0)), none, none, some (.int x11)]) (fun x9 hx10 => ?_) (fun x11 hx12 => ?_) (fun T3 R5 R7 hT4 hR6 hR8 s1 hs2 => ?_) (p1, 0) Le.rf
  · show S0 X _ M 38 [none, none, none, none] [] _
    refine s_iconst (pc := 38) (-1) dX1_madeBy_38 kc_m1 ?_
    exact s_iret rfl dX1_madeBy_39
  · show S0 X _ M 25 [some (.ref (gh (xG X) + a0)), none, none, some (.int x11)] [] _
    refine s_aload_n (pc := 25) 0 dX1_madeBy_25 rfl rfl ?_
    refine s_grd (fun o19 => ?_)
    refine s_geto (pc := 26) F_1 3 rfl o19 dX1_madeBy_26 kf_X1_18 ?_
    refine s_rvB (fun r20 => ?_)
    refine s_iload_n (pc := 29) 3 dX1_madeBy_29 rfl rfl ?_
    refine s_grd (fun o21 => ?_)
    refine s_grd (fun i22 => ?_)
    refine s_iald (pc := 30) o21 i22 dX1_madeBy_30 ?_
    exact s_iret rfl dX1_madeBy_31
  · show S0 X _ M 4 [some (.ref (gh (xG X) + a0)), none, some (.int s1.1), some (.int s1.2)] [] _
    refine s_iload_n (pc := 4) 3 dX1_madeBy_4 rfl rfl ?_
    refine s_aload_n (pc := 5) 0 dX1_madeBy_5 rfl rfl ?_
    refine s_grd (fun o13 => ?_)
    refine s_geti (pc := 6) F_1 5 rfl o13 dX1_madeBy_6 kf_X1_82 ?_
    refine s_icge (pc := 9) 38 dX1_madeBy_9 rfl ?_ ?_
    · exact s_drop (hR6 () Le.rf) trivial
    · refine s_iload_n (pc := 12) 2 dX1_madeBy_12 rfl rfl ?_
      refine s_aload_n (pc := 13) 0 dX1_madeBy_13 rfl rfl ?_
      refine s_geto (pc := 14) F_1 4 rfl o13 dX1_madeBy_14 kf_X1_22 ?_
      refine s_rvB (fun r14 => ?_)
      refine s_iload_n (pc := 17) 3 dX1_madeBy_17 rfl rfl ?_
      refine s_grd (fun o15 => ?_)
      refine s_grd (fun i16 => ?_)
      refine s_iald (pc := 18) o15 i16 dX1_madeBy_18 ?_
      refine s_isub (pc := 19) dX1_madeBy_19 ?_
      refine s_istore_n (pc := 20) 2 dX1_madeBy_20 rfl (nlt rfl) rfl (L' := [some (.ref (gh (xG X) + a0)), none, some (.int (s1.1 - (mI M r14 s1.2.toNatClampNeg))), some (.int s1.2)]) rfl ?_
      refine s_bv (fun x17 : Int32 => [some (.ref (gh (xG X) + a0)), none, some (.int x17), some (.int s1.2)]) (fun x17 => ?_) rfl
      refine s_iload_n (pc := 21) 2 dX1_madeBy_21 rfl rfl ?_
      refine s_ifge (pc := 22) 32 dX1_madeBy_22 rfl ?_ ?_
      · refine s_iinc (pc := 32) dX1_madeBy_32 rfl (v := s1.2 + 1) (congrArg (fun z : Int32 => s1.2 + z) kc_1) (nlt rfl) rfl (L' := [some (.ref (gh (xG X) + a0)), none, some (.int x17), some (.int (s1.2 + 1))]) rfl ?_
        refine s_bv (fun x18 : Int32 => [some (.ref (gh (xG X) + a0)), none, some (.int x17), some (.int x18)]) (fun x18 => ?_) rfl
        refine s_goto (pc := 35) 4 dX1_madeBy_35 rfl ?_
        exact s_drop (hT4 (x17, x18) Le.rf) (And.intro rfl (And.intro rfl (And.intro rfl trivial)))
      · exact s_drop (hR8 s1.2 Le.rf) (And.intro rfl (And.intro rfl trivial))
set_option maxRecDepth 100000 in
set_option maxHeartbeats 8000000 in
noncomputable def f_X2_init (M : Mem) (a0 : Nat) (a1 : Nat) (a2 : Nat) : Option Mem :=
  bv (nA M 16 (9331 : Int32).toNatClampNeg) (fun M1 => grd (okO M1 2 a0) (bv (wR M1 a0 2 (some (mn M))) (fun M6 => bv (nA M6 16 (9331 : Int32).toNatClampNeg) (fun M10 => bv (wR M10 a0 3 (some (mn M6))) (fun M15 => bv (wR M15 a0 0 (some a1)) (fun M19 => bv (wR M19 a0 1 (some a2)) (fun M23 => some M23)))))))
abbrev Y_X2_init : Sta := (RX2, "<init>", cX2_init, 3, none, 1)
set_option maxRecDepth 100000 in
set_option maxHeartbeats 8000000 in
theorem t_X2_init {l : Launch} {G : Gh} {M : Mem} {a0 : Nat} {a1 : Nat} {a2 : Nat} {q : Mem} (h : f_X2_init M a0 a1 a2 = some q) : Ctr l G yX2_init Y_X2_init M [.ref (gh G + a0), .ref (gh G + a1), .ref (gh G + a2)] q (none) := by
  refine Ctr.of (Y := Y_X2_init) (L := [some (.ref (gh G + a0)), some (.ref (gh G + a1)), some (.ref (gh G + a2))]) (t := Option.bind (f_X2_init M a0 a1 a2) (fun q => some (q, (none : Option Value)))) (by decide) rfl rfl (nle rfl) (Lof_in 0 _ rfl) (fun X hG hl => ?_) (by rw [h]; rfl)
  subst hG
  subst hl
  unfold f_X2_init
  refine s_aload_n (pc := 0) 0 dX2_init_0 rfl rfl ?_
  refine s_obj (pc := 1) km_X2_3 wi_obj wc_obj (nle rfl) (nle rfl) dX2_init_1 ?_
  refine s_aload_n (pc := 4) 0 dX2_init_4 rfl rfl ?_
  refine s_sipush (pc := 5) 9331 dX2_init_5 ks_9331 ?_
  refine s_newa_short (pc := 8) (And.intro (by decide) (by decide)) dX2_init_8 wa_short (fun M1 hM2 => ?_)
  have h3 := le_nA hM2
  have o4 := ok_nA hM2
  refine s_grd (fun o5 => ?_)
  refine s_putrF (pc := 10) F_2 2 rfl o5 rfl rfl rfl rfl rfl dX2_init_10 kf_X2_9 (fun M6 hM7 => ?_)
  have h8 := le_wR hM7
  have o9 := h8.ok o5
  refine s_aload_n (pc := 13) 0 dX2_init_13 rfl rfl ?_
  refine s_sipush (pc := 14) 9331 dX2_init_14 ks_9331 ?_
  refine s_newa_short (pc := 17) (And.intro (by decide) (by decide)) dX2_init_17 wa_short (fun M10 hM11 => ?_)
  have h12 := le_nA hM11
  have o13 := h12.ok o9
  have o14 := ok_nA hM11
  refine s_putrF (pc := 19) F_2 3 rfl o13 rfl rfl rfl rfl rfl dX2_init_19 kf_X2_15 (fun M15 hM16 => ?_)
  have h17 := le_wR hM16
  have o18 := h17.ok o13
  refine s_aload_n (pc := 22) 0 dX2_init_22 rfl rfl ?_
  refine s_aload_n (pc := 23) 1 dX2_init_23 rfl rfl ?_
  refine s_putrF (pc := 24) F_2 0 rfl o18 rfl rfl rfl rfl rfl dX2_init_24 kf_X2_18 (fun M19 hM20 => ?_)
  have h21 := le_wR hM20
  have o22 := h21.ok o18
  refine s_aload_n (pc := 27) 0 dX2_init_27 rfl rfl ?_
  refine s_aload_n (pc := 28) 2 dX2_init_28 rfl rfl ?_
  refine s_putrF (pc := 29) F_2 1 rfl o22 rfl rfl rfl rfl rfl dX2_init_29 kf_X2_22 (fun M23 hM24 => ?_)
  have h25 := le_wR hM24
  have o26 := h25.ok o22
  exact s_vret rfl dX2_init_32
set_option maxRecDepth 100000 in
set_option maxHeartbeats 8000000 in
noncomputable def f_X2_isOf (M : Mem) (a0 : Nat) (p1 : Int32) (p2 : Int32) : Option Int32 :=
  grd (okO M 2 a0) (if (mI M a0 7) = p1 then (if (mI M a0 8) = p2 then (Option.bind (mR M a0 0) (fun r2 => grd (okO M 10 r2) (if (mI M a0 9) = (mI M r2 13) then (some 1) else (some 0)))) else (some 0)) else (some 0))
abbrev Y_X2_isOf : Sta := (RX2, "isOf", cX2_isOf, 3, (some .boolean), 1)
set_option maxRecDepth 100000 in
set_option maxHeartbeats 8000000 in
theorem t_X2_isOf {l : Launch} {G : Gh} {M : Mem} {a0 : Nat} {p1 : Int32} {p2 : Int32} {q : Int32} (h : f_X2_isOf M a0 p1 p2 = some q) : Ctr l G yX2_isOf Y_X2_isOf M [.ref (gh G + a0), .int p1, .int p2] M (some (.int q)) := by
  refine Ctr.of (Y := Y_X2_isOf) (L := [some (.ref (gh G + a0)), some (.int p1), some (.int p2)]) (t := Option.bind (f_X2_isOf M a0 p1 p2) (fun q => some (M, some (.int q)))) (by decide) rfl rfl (nle rfl) (Lof_in 0 _ rfl) (fun X hG hl => ?_) (by rw [h]; rfl)
  subst hG
  subst hl
  unfold f_X2_isOf
  refine s_aload_n (pc := 0) 0 dX2_isOf_0 rfl rfl ?_
  refine s_grd (fun o1 => ?_)
  refine s_geti (pc := 1) F_2 7 rfl o1 dX2_isOf_1 kf_X2_26 ?_
  refine s_iload_n (pc := 4) 1 dX2_isOf_4 rfl rfl ?_
  refine s_icne (pc := 5) 34 dX2_isOf_5 rfl ?_ ?_
  · refine s_iconst (pc := 34) 0 dX2_isOf_34 kc_0 ?_
    exact s_zret rfl rfl dX2_isOf_35
  · refine s_aload_n (pc := 8) 0 dX2_isOf_8 rfl rfl ?_
    refine s_geti (pc := 9) F_2 8 rfl o1 dX2_isOf_9 kf_X2_30 ?_
    refine s_iload_n (pc := 12) 2 dX2_isOf_12 rfl rfl ?_
    refine s_icne (pc := 13) 34 dX2_isOf_13 rfl ?_ ?_
    · refine s_iconst (pc := 34) 0 dX2_isOf_34 kc_0 ?_
      exact s_zret rfl rfl dX2_isOf_35
    · refine s_aload_n (pc := 16) 0 dX2_isOf_16 rfl rfl ?_
      refine s_geti (pc := 17) F_2 9 rfl o1 dX2_isOf_17 kf_X2_33 ?_
      refine s_aload_n (pc := 20) 0 dX2_isOf_20 rfl rfl ?_
      refine s_geto (pc := 21) F_2 0 rfl o1 dX2_isOf_21 kf_X2_18 ?_
      refine s_rvB (fun r2 => ?_)
      refine s_grd (fun o3 => ?_)
      refine s_getiN (pc := 24) F_10 13 rfl o3 dX2_isOf_24 (List.mem_of_getElem? (i := 17) rfl) ?_
      refine s_icne (pc := 27) 34 dX2_isOf_27 rfl ?_ ?_
      · refine s_iconst (pc := 34) 0 dX2_isOf_34 kc_0 ?_
        exact s_zret rfl rfl dX2_isOf_35
      · refine s_iconst (pc := 30) 1 dX2_isOf_30 kc_1 ?_
        refine s_goto (pc := 31) 35 dX2_isOf_31 rfl ?_
        exact s_zret rfl rfl dX2_isOf_35
set_option maxRecDepth 100000 in
set_option maxHeartbeats 8000000 in
noncomputable def f_X2_note (M : Mem) (a0 : Nat) (p1 : Int32) : Option Mem :=
  grd (okO M 2 a0) (if 9331 ≤ (mI M a0 5) then (some M) else (if p1 < 0 then (some M) else (if 9331 ≤ p1 then (some M) else (Option.bind (mR M a0 2) (fun r2 => grd (okO M 16 r2) (grd (vp_in p1 (mL M r2)) (bv (wI M r2 p1.toNatClampNeg (vp_nar .short (mI M a0 6))) (fun M5 => Option.bind (mR M5 a0 3) (fun r9 => grd (okO M5 16 r9) (grd (vp_in (mI M5 a0 5) (mL M5 r9)) (bv (wI M5 r9 (mI M5 a0 5).toNatClampNeg (vp_nar .short (ns p1))) (fun M12 => bv (wI M12 a0 5 ((mI M12 a0 5) + 1)) (fun M16 => some M16)))))))))))))
abbrev Y_X2_note : Sta := (RX2, "note", cX2_note, 2, none, 1)
set_option maxRecDepth 100000 in
set_option maxHeartbeats 8000000 in
theorem t_X2_note {l : Launch} {G : Gh} {M : Mem} {a0 : Nat} {p1 : Int32} {q : Mem} (h : f_X2_note M a0 p1 = some q) : Ctr l G yX2_note Y_X2_note M [.ref (gh G + a0), .int p1] q (none) := by
  refine Ctr.of (Y := Y_X2_note) (L := [some (.ref (gh G + a0)), some (.int p1)]) (t := Option.bind (f_X2_note M a0 p1) (fun q => some (q, (none : Option Value)))) (by decide) rfl rfl (nle rfl) (Lof_in 0 _ rfl) (fun X hG hl => ?_) (by rw [h]; rfl)
  subst hG
  subst hl
  unfold f_X2_note
  refine s_aload_n (pc := 0) 0 dX2_note_0 rfl rfl ?_
  refine s_grd (fun o1 => ?_)
  refine s_geti (pc := 1) F_2 5 rfl o1 dX2_note_1 kf_X2_55 ?_
  refine s_sipush (pc := 4) 9331 dX2_note_4 ks_9331 ?_
  refine s_icge (pc := 7) 52 dX2_note_7 rfl ?_ ?_
  · exact s_vret rfl dX2_note_52
  · refine s_iload_n (pc := 10) 1 dX2_note_10 rfl rfl ?_
    refine s_iflt (pc := 11) 52 dX2_note_11 rfl ?_ ?_
    · exact s_vret rfl dX2_note_52
    · refine s_iload_n (pc := 14) 1 dX2_note_14 rfl rfl ?_
      refine s_sipush (pc := 15) 9331 dX2_note_15 ks_9331 ?_
      refine s_icge (pc := 18) 52 dX2_note_18 rfl ?_ ?_
      · exact s_vret rfl dX2_note_52
      · refine s_aload_n (pc := 21) 0 dX2_note_21 rfl rfl ?_
        refine s_geto (pc := 22) F_2 2 rfl o1 dX2_note_22 kf_X2_9 ?_
        refine s_rvB (fun r2 => ?_)
        refine s_iload_n (pc := 25) 1 dX2_note_25 rfl rfl ?_
        refine s_aload_n (pc := 26) 0 dX2_note_26 rfl rfl ?_
        refine s_geti (pc := 27) F_2 6 rfl o1 dX2_note_27 kf_X2_58 ?_
        refine s_grd (fun o3 => ?_)
        refine s_grd (fun i4 => ?_)
        refine s_sast (pc := 30) o3 i4 dX2_note_30 (fun M5 hM6 => ?_)
        have h7 := le_wI hM6
        have o8 := h7.ok o1
        refine s_aload_n (pc := 31) 0 dX2_note_31 rfl rfl ?_
        refine s_geto (pc := 32) F_2 3 rfl o8 dX2_note_32 kf_X2_15 ?_
        refine s_rvB (fun r9 => ?_)
        refine s_aload_n (pc := 35) 0 dX2_note_35 rfl rfl ?_
        refine s_geti (pc := 36) F_2 5 rfl o8 dX2_note_36 kf_X2_55 ?_
        refine s_iload_n (pc := 39) 1 dX2_note_39 rfl rfl ?_
        refine s_i2s (pc := 40) dX2_note_40 ?_
        refine s_grd (fun o10 => ?_)
        refine s_grd (fun i11 => ?_)
        refine s_sast (pc := 41) o10 i11 dX2_note_41 (fun M12 hM13 => ?_)
        have h14 := le_wI hM13
        have o15 := h14.ok o8
        refine s_aload_n (pc := 42) 0 dX2_note_42 rfl rfl ?_
        refine s_dup (pc := 43) dX2_note_43 rfl ?_
        refine s_geti (pc := 44) F_2 5 rfl o15 dX2_note_44 kf_X2_55 ?_
        refine s_iconst (pc := 47) 1 dX2_note_47 kc_1 ?_
        refine s_iadd (pc := 48) dX2_note_48 ?_
        refine s_puti (pc := 49) F_2 5 rfl o15 rfl rfl rfl dX2_note_49 kf_X2_55 (fun M16 hM17 => ?_)
        have h18 := le_wI hM17
        have o19 := h18.ok o15
        exact s_vret rfl dX2_note_52
