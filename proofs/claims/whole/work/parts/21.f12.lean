set_option maxRecDepth 100000 in
set_option maxHeartbeats 8000000 in
noncomputable def f_X2_begin (M : Mem) (a0 : Nat) (p1 : Int32) (p2 : Int32) : Option Mem :=
  grd (okO M 2 a0) (bv (wI M a0 7 p1) (fun M2 => bv (wI M2 a0 8 p2) (fun M6 => Option.bind (mR M6 a0 0) (fun r10 => grd (okO M6 10 r10) (bv (wI M6 a0 9 (mI M6 r10 13)) (fun M12 => bv (wI M12 a0 10 0) (fun M16 => Option.bind (loopO (σ := Mem × Int32) (ρ := Mem) (fun s20 => if 6 ≤ s20.2 then (some (.inr s20.1)) else (Option.bind (mR s20.1 a0 0) (fun r29 => grd (okO s20.1 10 r29) (Option.bind (mR s20.1 r29 2) (fun r31 => grd (okO s20.1 14 r31) (grd (vp_in s20.2 (mL s20.1 r31)) (bv (fun (s35 : Int32) => bv (wI s20.1 a0 10 ((mI s20.1 a0 10) ||| s35)) (fun M38 => bv (s20.2 + 1 : Int32) (fun x42 => some (.inl (M38, x42))))) (fun j34 => if (mI s20.1 r31 s20.2.toNatClampNeg) = (-1) then (j34 0) else (Option.bind (mR s20.1 a0 0) (fun r43 => grd (okO s20.1 10 r43) (Option.bind (mR s20.1 r43 2) (fun r45 => grd (okO s20.1 14 r45) (grd (vp_in s20.2 (mL s20.1 r45)) (j34 (sl 1 (mI s20.1 r45 s20.2.toNatClampNeg)))))))))))))))) (M16, 0)) (fun (x27 : Mem) => Option.bind (mR x27 a0 2) (fun r49 => Option.bind (f_J7_fill_fb410 x27 r49 (-1)) (fun q50 => bv (wI q50 a0 4 0) (fun M55 => bv (wI M55 a0 5 0) (fun M59 => bv (wI M59 a0 6 0) (fun M63 => Option.bind (f_X2_note M63 a0 p1) (fun q67 => some q67))))))))))))))
abbrev Y_X2_begin : Sta := (RX2, "begin", cX2_begin, 4, none, 2)
set_option maxRecDepth 100000 in
set_option maxHeartbeats 8000000 in
theorem t_X2_begin {l : Launch} {G : Gh} {M : Mem} {a0 : Nat} {p1 : Int32} {p2 : Int32} {q : Mem} (h : f_X2_begin M a0 p1 p2 = some q) : Ctr l G yX2_begin Y_X2_begin M [.ref (gh G + a0), .int p1, .int p2] q (none) := by
  refine Ctr.of (Y := Y_X2_begin) (L := [some (.ref (gh G + a0)), some (.int p1), some (.int p2), none]) (t := Option.bind (f_X2_begin M a0 p1 p2) (fun q => some (q, (none : Option Value)))) (by decide) rfl rfl (nle rfl) (Lof_in 1 _ rfl) (fun X hG hl => ?_) (by rw [h]; rfl)
  subst hG
  subst hl
  unfold f_X2_begin
  refine s_aload_n (pc := 0) 0 dX2_begin_0 rfl rfl ?_
  refine s_iload_n (pc := 1) 1 dX2_begin_1 rfl rfl ?_
  refine s_grd (fun o1 => ?_)
  refine s_puti (pc := 2) F_2 7 rfl o1 rfl rfl rfl dX2_begin_2 kf_X2_26 (fun M2 hM3 => ?_)
  have h4 := le_wI hM3
  have o5 := h4.ok o1
  refine s_aload_n (pc := 5) 0 dX2_begin_5 rfl rfl ?_
  refine s_iload_n (pc := 6) 2 dX2_begin_6 rfl rfl ?_
  refine s_puti (pc := 7) F_2 8 rfl o5 rfl rfl rfl dX2_begin_7 kf_X2_30 (fun M6 hM7 => ?_)
  have h8 := le_wI hM7
  have o9 := h8.ok o5
  refine s_aload_n (pc := 10) 0 dX2_begin_10 rfl rfl ?_
  refine s_aload_n (pc := 11) 0 dX2_begin_11 rfl rfl ?_
  refine s_geto (pc := 12) F_2 0 rfl o9 dX2_begin_12 kf_X2_18 ?_
  refine s_rvB (fun r10 => ?_)
  refine s_grd (fun o11 => ?_)
  refine s_getiN (pc := 15) F_10 13 rfl o11 dX2_begin_15 (List.mem_of_getElem? (i := 17) rfl) ?_
  refine s_puti (pc := 18) F_2 9 rfl o9 rfl rfl rfl dX2_begin_18 kf_X2_33 (fun M12 hM13 => ?_)
  have h14 := le_wI hM13
  have o15 := h14.ok o9
  refine s_aload_n (pc := 21) 0 dX2_begin_21 rfl rfl ?_
  refine s_iconst (pc := 22) 0 dX2_begin_22 kc_0 ?_
  refine s_puti (pc := 23) F_2 10 rfl o15 rfl rfl rfl dX2_begin_23 kf_X2_39 (fun M16 hM17 => ?_)
  have h18 := le_wI hM17
  have o19 := h18.ok o15
  refine s_iconst (pc := 26) 0 dX2_begin_26 kc_0 ?_
  refine s_istore_n (pc := 27) 3 dX2_begin_27 rfl (nlt rfl) rfl (L' := [some (.ref (gh (xG X) + a0)), some (.int p1), some (.int p2), some (.int 0)]) rfl ?_
  refine s_drop (L' := [some (.ref (gh (xG X) + a0)), some (.int p1), none, some (.int 0)]) ?_ (And.intro rfl (And.intro rfl (And.intro rfl trivial)))
  refine s_loop1 M16 (fun s20 : Mem × Int32 => s20.1) (fun s20 : Mem × Int32 => [some (.ref (gh (xG X) + a0)), some (.int p1), none, some (.int s20.2)]) (fun x27 : Mem => x27) 77 (fun x27 : Mem => [some (.ref (gh (xG X) + a0)), some (.int p1), none, none]) (fun x27 hx28 => ?_) (fun T22 R24 hT23 hR25 s20 hs21 => ?_) (M16, 0) Le.rf
  · show S0 X _ x27 77 [some (.ref (gh (xG X) + a0)), some (.int p1), none, none] [] _
    have o48 := hx28.ok o19
    refine s_aload_n (pc := 77) 0 dX2_begin_77 rfl rfl ?_
    refine s_geto (pc := 78) F_2 2 rfl o48 dX2_begin_78 kf_X2_9 ?_
    refine s_rvB (fun r49 => ?_)
    refine s_iconst (pc := 81) (-1) dX2_begin_81 kc_m1 ?_
    refine s_bind (fun q50 hq51 => ?_)
    have hC52 := t_J7_fill_fb410 (l := xl X) (G := xG X) hq51
    refine s_callS (pc := 82) (As := [.ref (gh (xG X) + r49), .int (-1)]) (st := []) cl_J7_fill_fb410 wt_J7_fill_fb410 km_X2_46 rfl rfl (nle rfl) (nle rfl) (nle rfl) dX2_begin_82 hC52 ?_
    have h53 := hC52.1 X
    have o54 := h53.ok o48
    show S0 X _ q50 85 [some (.ref (gh (xG X) + a0)), some (.int p1), none, none] [] _
    refine s_aload_n (pc := 85) 0 dX2_begin_85 rfl rfl ?_
    refine s_iconst (pc := 86) 0 dX2_begin_86 kc_0 ?_
    refine s_puti (pc := 87) F_2 4 rfl o54 rfl rfl rfl dX2_begin_87 kf_X2_52 (fun M55 hM56 => ?_)
    have h57 := le_wI hM56
    have o58 := h57.ok o54
    refine s_aload_n (pc := 90) 0 dX2_begin_90 rfl rfl ?_
    refine s_iconst (pc := 91) 0 dX2_begin_91 kc_0 ?_
    refine s_puti (pc := 92) F_2 5 rfl o58 rfl rfl rfl dX2_begin_92 kf_X2_55 (fun M59 hM60 => ?_)
    have h61 := le_wI hM60
    have o62 := h61.ok o58
    refine s_aload_n (pc := 95) 0 dX2_begin_95 rfl rfl ?_
    refine s_iconst (pc := 96) 0 dX2_begin_96 kc_0 ?_
    refine s_puti (pc := 97) F_2 6 rfl o62 rfl rfl (by decide) dX2_begin_97 kf_X2_58 (fun M63 hM64 => ?_)
    have h65 := le_wI hM64
    have o66 := h65.ok o62
    refine s_aload_n (pc := 100) 0 dX2_begin_100 rfl rfl ?_
    refine s_iload_n (pc := 101) 1 dX2_begin_101 rfl rfl ?_
    refine s_bind (fun q67 hq68 => ?_)
    have hC69 := t_X2_note (l := xl X) (G := xG X) hq68
    refine s_callV (pc := 102) (As := [.int p1]) (st := []) (nlt rfl) (q := (RX2, TX2, 11)) rfl rfl o66 cl_X2_note wi_X2_note wl_X2_note km_X2_62 rfl rfl (nle rfl) (nle rfl) (nle rfl) dX2_begin_102 hC69 ?_
    have h70 := hC69.1 X
    have o71 := h70.ok o66
    show S0 X _ q67 105 [some (.ref (gh (xG X) + a0)), some (.int p1), none, none] [] _
    exact s_vret rfl dX2_begin_105
  · show S0 X _ s20.1 28 [some (.ref (gh (xG X) + a0)), some (.int p1), none, some (.int s20.2)] [] _
    have o26 := hs21.ok o19
    refine s_iload_n (pc := 28) 3 dX2_begin_28 rfl rfl ?_
    refine s_bipush (pc := 29) 6 dX2_begin_29 kb_6 ?_
    refine s_icge (pc := 31) 77 dX2_begin_31 rfl ?_ ?_
    · exact s_drop (hR25 s20.1 hs21) (And.intro rfl (And.intro rfl trivial))
    · refine s_aload_n (pc := 34) 0 dX2_begin_34 rfl rfl ?_
      refine s_dup (pc := 35) dX2_begin_35 rfl ?_
      refine s_geti (pc := 36) F_2 10 rfl o26 dX2_begin_36 kf_X2_39 ?_
      refine s_aload_n (pc := 39) 0 dX2_begin_39 rfl rfl ?_
      refine s_geto (pc := 40) F_2 0 rfl o26 dX2_begin_40 kf_X2_18 ?_
      refine s_rvB (fun r29 => ?_)
      refine s_grd (fun o30 => ?_)
      refine s_getoN (pc := 43) F_10 2 rfl o30 dX2_begin_43 (List.mem_of_getElem? (i := 2) rfl) ?_
      refine s_rvB (fun r31 => ?_)
      refine s_iload_n (pc := 46) 3 dX2_begin_46 rfl rfl ?_
      refine s_grd (fun o32 => ?_)
      refine s_grd (fun i33 => ?_)
      refine s_iald (pc := 47) o32 i33 dX2_begin_47 ?_
      refine s_iconst (pc := 48) (-1) dX2_begin_48 kc_m1 ?_
      refine s_join s20.1 (fun s35 : Int32 => s20.1) 67 (fun s35 : Int32 => [some (.ref (gh (xG X) + a0)), some (.int p1), none, some (.int s20.2)]) (fun s35 : Int32 => [.int s35, .int (mI s20.1 a0 10), .ref (gh (xG X) + a0)]) (fun s35 hs36 => ?_) (fun j34 hj37 => ?_)
      · show S0 X _ s20.1 67 [some (.ref (gh (xG X) + a0)), some (.int p1), none, some (.int s20.2)] [.int s35, .int (mI s20.1 a0 10), .ref (gh (xG X) + a0)] _
        refine s_ior (pc := 67) dX2_begin_67 ?_
        refine s_puti (pc := 68) F_2 10 rfl o26 rfl rfl rfl dX2_begin_68 kf_X2_39 (fun M38 hM39 => ?_)
        have h40 := le_wI hM39
        have o41 := h40.ok o26
        refine s_iinc (pc := 71) dX2_begin_71 rfl (v := s20.2 + 1) (congrArg (fun z : Int32 => s20.2 + z) kc_1) (nlt rfl) rfl (L' := [some (.ref (gh (xG X) + a0)), some (.int p1), none, some (.int (s20.2 + 1))]) rfl ?_
        refine s_bv (fun x42 : Int32 => [some (.ref (gh (xG X) + a0)), some (.int p1), none, some (.int x42)]) (fun x42 => ?_) rfl
        refine s_goto (pc := 74) 28 dX2_begin_74 rfl ?_
        exact s_drop (hT23 (M38, x42) (hs21.tr h40)) (And.intro rfl (And.intro rfl (And.intro rfl trivial)))
      · refine s_icne (pc := 49) 56 dX2_begin_49 rfl ?_ ?_
        · refine s_iconst (pc := 56) 1 dX2_begin_56 kc_1 ?_
          refine s_aload_n (pc := 57) 0 dX2_begin_57 rfl rfl ?_
          refine s_geto (pc := 58) F_2 0 rfl o26 dX2_begin_58 kf_X2_18 ?_
          refine s_rvB (fun r43 => ?_)
          refine s_grd (fun o44 => ?_)
          refine s_getoN (pc := 61) F_10 2 rfl o44 dX2_begin_61 (List.mem_of_getElem? (i := 2) rfl) ?_
          refine s_rvB (fun r45 => ?_)
          refine s_iload_n (pc := 64) 3 dX2_begin_64 rfl rfl ?_
          refine s_grd (fun o46 => ?_)
          refine s_grd (fun i47 => ?_)
          refine s_iald (pc := 65) o46 i47 dX2_begin_65 ?_
          refine s_ishl (pc := 66) dX2_begin_66 ?_
          exact s_drop (hj37 (sl 1 (mI s20.1 r45 s20.2.toNatClampNeg)) Le.rf) (And.intro rfl (And.intro rfl (And.intro rfl trivial)))
        · refine s_iconst (pc := 52) 0 dX2_begin_52 kc_0 ?_
          refine s_goto (pc := 53) 67 dX2_begin_53 rfl ?_
          exact s_drop (hj37 0 Le.rf) (And.intro rfl (And.intro rfl (And.intro rfl trivial)))
set_option maxRecDepth 100000 in
set_option maxHeartbeats 8000000 in
noncomputable def f_X3_run (M : Mem) (a0 : Nat) (a1 : Nat) (p2 : Int32) : Option (Mem × Int64) :=
  bv (mmax p2 0 : Int32) (fun x1 => Option.bind (loopO (σ := Mem × Int32 × Int32) (ρ := Mem ⊕ (Mem ⊕ (Mem ⊕ (Mem ⊕ Mem)))) (fun s2 => grd (okO s2.1 14 a1) (if (nI (mL s2.1 a1)) ≤ s2.2.2 then (some (.inr (.inl s2.1))) else (grd (vp_in s2.2.2 (mL s2.1 a1)) (bv ((mI s2.1 a1 s2.2.2.toNatClampNeg) &&& 15 : Int32) (fun x28 => bv (sr (mI s2.1 a1 s2.2.2.toNatClampNeg) 4 : Int32) (fun x29 => bv (fun (s31 : Mem × Int32 × Int32) => bv (s31.2.2 + 1 : Int32) (fun x35 => some (.inl (s31.1, s31.2.1, x35)))) (fun j30 => bv (fun (s37 : Unit) => grd (okO s2.1 3 a0) (Option.bind (mR s2.1 a0 1) (fun r41 => grd (okO s2.1 15 r41) (if (nI (mL s2.1 r41)) ≤ s2.2.1 then (some (.inr (.inr (.inr (.inr (.inr s2.1)))))) else (bv (fun (s44 : Unit) => Option.bind (mR s2.1 a0 1) (fun r47 => bv (fun (s49 : Int64) => grd (okO s2.1 15 r47) (grd (vp_in s2.2.1 (mL s2.1 r47)) (bv (wJ s2.1 r47 s2.2.1.toNatClampNeg s49) (fun M54 => bv (s2.2.1 + 1 : Int32) (fun x59 => j30 (M54, x59, s2.2.2)))))) (fun j48 => if x28 = 1 then (j48 x29.toInt64) else (Option.bind (mR s2.1 a0 0) (fun r60 => grd (okO s2.1 14 r60) (grd (vp_in x29 (mL s2.1 r60)) (j48 ((mI s2.1 r60 x29.toNatClampNeg).toInt64)))))))) (fun j43 => if x28 = 2 then (if x29 < 88 then (j43 ()) else (some (.inr (.inr (.inr (.inr (.inr s2.1))))))) else (j43 ()))))))) (fun j36 => if x28 = 1 then (j36 ()) else (if x28 = 2 then (j36 ()) else (if 1 ≤ s2.2.1 then (if x28 = 0 then (some (.inr (.inr (.inr (.inl s2.1))))) else (if x28 = 11 then (grd (okO s2.1 3 a0) (Option.bind (mR s2.1 a0 1) (fun r116 => Option.bind (mR s2.1 a0 1) (fun r117 => grd (okO s2.1 15 r117) (grd (vp_in (s2.2.1 - 1) (mL s2.1 r117)) (grd (okO s2.1 15 r116) (grd (vp_in (s2.2.1 - 1) (mL s2.1 r116)) (bv (wJ s2.1 r116 (s2.2.1 - 1).toNatClampNeg (1 - (mJ s2.1 r117 (s2.2.1 - 1).toNatClampNeg))) (fun M122 => j30 (M122, s2.2.1, s2.2.2)))))))))) else (bv (fun (s64 : Unit) => grd (okO s2.1 3 a0) (Option.bind (mR s2.1 a0 1) (fun r68 => grd (okO s2.1 15 r68) (grd (vp_in (s2.2.1 - 1) (mL s2.1 r68)) (bv (fun (s72 : Int32) => bv (fun (s76 : Int32) => bv (fun (s80 : Int32) => bv (fun (s84 : Int32) => bv (fun (s88 : Int32) => j30 (s2.1, s88, s84)) (fun j87 => if s80 = 0 then (j87 (s2.2.1 - 1)) else (j87 s2.2.1))) (fun j83 => if s80 = 0 then (j83 s2.2.2) else (j83 (mmax s2.2.2 (x29 - 1))))) (fun j79 => if s72 = s76 then (j79 1) else (j79 0))) (fun j75 => if x28 = 12 then (j75 1) else (j75 0))) (fun j71 => if (lg_cmp (mJ s2.1 r68 (s2.2.1 - 1).toNatClampNeg) 1) = 0 then (j71 1) else (j71 0))))))) (fun j63 => if x28 = 12 then (j63 ()) else (if x28 = 13 then (j63 ()) else (bv (fun (s92 : Int64) => if (lg_cmp s92 (-4611686018427387904)) = 0 then (some (.inr (.inr (.inr (.inr (.inl s2.1)))))) else (bv (s2.2.1 + (-1) : Int32) (fun x95 => grd (okO s2.1 3 a0) (Option.bind (mR s2.1 a0 1) (fun r97 => grd (okO s2.1 15 r97) (grd (vp_in (x95 - 1) (mL s2.1 r97)) (bv (wJ s2.1 r97 (x95 - 1).toNatClampNeg s92) (fun M100 => j30 (M100, x95, s2.2.2))))))))) (fun j91 => if 2 ≤ s2.2.1 then (grd (okO s2.1 3 a0) (Option.bind (mR s2.1 a0 1) (fun r106 => grd (okO s2.1 15 r106) (grd (vp_in (s2.2.1 - 2) (mL s2.1 r106)) (Option.bind (mR s2.1 a0 1) (fun r109 => grd (okO s2.1 15 r109) (grd (vp_in (s2.2.1 - 1) (mL s2.1 r109)) (Option.bind (f_X3_apply x28 (mJ s2.1 r106 (s2.2.1 - 2).toNatClampNeg) (mJ s2.1 r109 (s2.2.1 - 1).toNatClampNeg)) (fun q112 => j91 q112))))))))) else (j91 (-4611686018427387904))))))))) else (some (.inr (.inr (.inl s2.1)))))))))))))) (M, 0, x1)) (Sum.elim (fun (x16 : Mem) => some (x16, (-4611686018427387904))) (Sum.elim (fun (x18 : Mem) => some (x18, (-4611686018427387904))) (Sum.elim (fun (x20 : Mem) => grd (okO x20 3 a0) (Option.bind (mR x20 a0 1) (fun r128 => grd (okO x20 15 r128) (grd (vp_in 0 (mL x20 r128)) (some (x20, mJ x20 r128 (0 : Int32).toNatClampNeg)))))) (Sum.elim (fun (x22 : Mem) => some (x22, (-4611686018427387904))) (fun (x24 : Mem) => some (x24, (-4611686018427387904))))))))
abbrev Y_X3_run : Sta := (RX3, "run", cX3_run, 9, (some .long), 2)
set_option maxRecDepth 100000 in
set_option maxHeartbeats 8000000 in
theorem t_X3_run {l : Launch} {G : Gh} {M : Mem} {a0 : Nat} {a1 : Nat} {p2 : Int32} {q : Mem × Int64} (h : f_X3_run M a0 a1 p2 = some q) : Ctr l G yX3_run Y_X3_run M [.ref (gh G + a0), .ref (gh G + a1), .int p2] q.1 (some (.long q.2)) := by
  refine Ctr.of (Y := Y_X3_run) (L := [some (.ref (gh G + a0)), some (.ref (gh G + a1)), some (.int p2), none, none, none, none, none, none]) (t := Option.bind (f_X3_run M a0 a1 p2) (fun q => some (q.1, some (.long q.2)))) (by decide) rfl rfl (nle rfl) (Lof_in 6 _ rfl) (fun X hG hl => ?_) (by rw [h]; rfl)
  subst hG
  subst hl
  unfold f_X3_run
  refine s_iconst (pc := 0) 0 dX3_run_0 kc_0 ?_
  refine s_istore_n (pc := 1) 3 dX3_run_1 rfl (nlt rfl) rfl (L' := [some (.ref (gh (xG X) + a0)), some (.ref (gh (xG X) + a1)), some (.int p2), some (.int 0), none, none, none, none, none]) rfl ?_
  refine s_iload_n (pc := 2) 2 dX3_run_2 rfl rfl ?_
  refine s_iconst (pc := 3) 0 dX3_run_3 kc_0 ?_
  refine s_mmax (pc := 4) km_X3_19 wt_J9_max_7cf53 wn_J9 wc_mmax (nle rfl) (nle rfl) dX3_run_4 ?_
  refine s_istore (pc := 7) dX3_run_7 (nlt rfl) rfl (L' := [some (.ref (gh (xG X) + a0)), some (.ref (gh (xG X) + a1)), some (.int p2), some (.int 0), some (.int (mmax p2 0)), none, none, none, none]) rfl ?_
  refine s_bv (fun x1 : Int32 => [some (.ref (gh (xG X) + a0)), some (.ref (gh (xG X) + a1)), some (.int p2), some (.int 0), some (.int x1), none, none, none, none]) (fun x1 => ?_) rfl
  refine s_drop (L' := [some (.ref (gh (xG X) + a0)), some (.ref (gh (xG X) + a1)), none, some (.int 0), some (.int x1), none, none, none, none]) ?_ (And.intro rfl (And.intro rfl (And.intro rfl (And.intro rfl trivial))))
  refine s_loop5 M (fun s2 : Mem × Int32 × Int32 => s2.1) (fun s2 : Mem × Int32 × Int32 => [some (.ref (gh (xG X) + a0)), some (.ref (gh (xG X) + a1)), none, some (.int s2.2.1), some (.int s2.2.2), none, none, none, none]) (fun x16 : Mem => x16) 309 (fun x16 : Mem => [none, none, none, none, none, none, none, none, none]) (fun x18 : Mem => x18) 108 (fun x18 : Mem => [none, none, none, none, none, none, none, none, none]) (fun x20 : Mem => x20) 117 (fun x20 : Mem => [some (.ref (gh (xG X) + a0)), none, none, none, none, none, none, none, none]) (fun x22 : Mem => x22) 286 (fun x22 : Mem => [none, none, none, none, none, none, none, none, none]) (fun x24 : Mem => x24) 67 (fun x24 : Mem => [none, none, none, none, none, none, none, none, none]) (fun x16 hx17 => ?_) (fun x18 hx19 => ?_) (fun x20 hx21 => ?_) (fun x22 hx23 => ?_) (fun x24 hx25 => ?_) (fun T4 R6 R8 R10 R12 R14 hT5 hR7 hR9 hR11 hR13 hR15 s2 hs3 => ?_) (M, 0, x1) Le.rf
  · show S0 X _ x16 309 [none, none, none, none, none, none, none, none, none] [] _
    refine s_ldc2 (pc := 309) dX3_run_309 kl_X3_25 ?_
    exact s_lret rfl dX3_run_312
  · show S0 X _ x18 108 [none, none, none, none, none, none, none, none, none] [] _
    refine s_ldc2 (pc := 108) dX3_run_108 kl_X3_25 ?_
    exact s_lret rfl dX3_run_111
  · show S0 X _ x20 117 [some (.ref (gh (xG X) + a0)), none, none, none, none, none, none, none, none] [] _
    refine s_aload_n (pc := 117) 0 dX3_run_117 rfl rfl ?_
    refine s_grd (fun o127 => ?_)
    refine s_geto (pc := 118) F_3 1 rfl o127 dX3_run_118 kf_X3_15 ?_
    refine s_rvB (fun r128 => ?_)
    refine s_iconst (pc := 121) 0 dX3_run_121 kc_0 ?_
    refine s_grd (fun o129 => ?_)
    refine s_grd (fun i130 => ?_)
    refine s_lald (pc := 122) o129 i130 dX3_run_122 ?_
    exact s_lret rfl dX3_run_123
  · show S0 X _ x22 286 [none, none, none, none, none, none, none, none, none] [] _
    refine s_ldc2 (pc := 286) dX3_run_286 kl_X3_25 ?_
    exact s_lret rfl dX3_run_289
  · show S0 X _ x24 67 [none, none, none, none, none, none, none, none, none] [] _
    refine s_ldc2 (pc := 67) dX3_run_67 kl_X3_25 ?_
    exact s_lret rfl dX3_run_70
  · show S0 X _ s2.1 9 [some (.ref (gh (xG X) + a0)), some (.ref (gh (xG X) + a1)), none, some (.int s2.2.1), some (.int s2.2.2), none, none, none, none] [] _
    refine s_iload (pc := 9) dX3_run_9 rfl ?_
    refine s_aload_n (pc := 11) 1 dX3_run_11 rfl rfl ?_
    refine s_grd (fun o26 => ?_)
    refine s_alen (pc := 12) 14 (And.intro (nle rfl) (nle rfl)) o26 dX3_run_12 ?_
    refine s_icge (pc := 13) 309 dX3_run_13 rfl ?_ ?_
    · exact s_drop (hR7 s2.1 hs3) trivial
    · refine s_aload_n (pc := 16) 1 dX3_run_16 rfl rfl ?_
      refine s_iload (pc := 17) dX3_run_17 rfl ?_
      refine s_grd (fun i27 => ?_)
      refine s_iald (pc := 19) o26 i27 dX3_run_19 ?_
      refine s_bipush (pc := 20) 15 dX3_run_20 kb_15 ?_
      refine s_iand (pc := 22) dX3_run_22 ?_
      refine s_istore (pc := 23) dX3_run_23 (nlt rfl) rfl (L' := [some (.ref (gh (xG X) + a0)), some (.ref (gh (xG X) + a1)), none, some (.int s2.2.1), some (.int s2.2.2), some (.int ((mI s2.1 a1 s2.2.2.toNatClampNeg) &&& 15)), none, none, none]) rfl ?_
      refine s_bv (fun x28 : Int32 => [some (.ref (gh (xG X) + a0)), some (.ref (gh (xG X) + a1)), none, some (.int s2.2.1), some (.int s2.2.2), some (.int x28), none, none, none]) (fun x28 => ?_) rfl
      refine s_aload_n (pc := 25) 1 dX3_run_25 rfl rfl ?_
      refine s_iload (pc := 26) dX3_run_26 rfl ?_
      refine s_iald (pc := 28) o26 i27 dX3_run_28 ?_
      refine s_iconst (pc := 29) 4 dX3_run_29 kc_4 ?_
      refine s_ishr (pc := 30) dX3_run_30 ?_
      refine s_istore (pc := 31) dX3_run_31 (nlt rfl) rfl (L' := [some (.ref (gh (xG X) + a0)), some (.ref (gh (xG X) + a1)), none, some (.int s2.2.1), some (.int s2.2.2), some (.int x28), some (.int (sr (mI s2.1 a1 s2.2.2.toNatClampNeg) 4)), none, none]) rfl ?_
      refine s_bv (fun x29 : Int32 => [some (.ref (gh (xG X) + a0)), some (.ref (gh (xG X) + a1)), none, some (.int s2.2.1), some (.int s2.2.2), some (.int x28), some (.int x29), none, none]) (fun x29 => ?_) rfl
      refine s_iload (pc := 33) dX3_run_33 rfl ?_
      refine s_iconst (pc := 35) 1 dX3_run_35 kc_1 ?_
      refine s_join s2.1 (fun s31 : Mem × Int32 × Int32 => s31.1) 303 (fun s31 : Mem × Int32 × Int32 => [some (.ref (gh (xG X) + a0)), some (.ref (gh (xG X) + a1)), none, some (.int s31.2.1), some (.int s31.2.2), none, none, none, none]) (fun s31 : Mem × Int32 × Int32 => []) (fun s31 hs32 => ?_) (fun j30 hj33 => ?_)
      · show S0 X _ s31.1 303 [some (.ref (gh (xG X) + a0)), some (.ref (gh (xG X) + a1)), none, some (.int s31.2.1), some (.int s31.2.2), none, none, none, none] [] _
        have o34 := hs32.ok o26
        refine s_iinc (pc := 303) dX3_run_303 rfl (v := s31.2.2 + 1) (congrArg (fun z : Int32 => s31.2.2 + z) kc_1) (nlt rfl) rfl (L' := [some (.ref (gh (xG X) + a0)), some (.ref (gh (xG X) + a1)), none, some (.int s31.2.1), some (.int (s31.2.2 + 1)), none, none, none, none]) rfl ?_
        refine s_bv (fun x35 : Int32 => [some (.ref (gh (xG X) + a0)), some (.ref (gh (xG X) + a1)), none, some (.int s31.2.1), some (.int x35), none, none, none, none]) (fun x35 => ?_) rfl
        refine s_goto (pc := 306) 9 dX3_run_306 rfl ?_
        exact s_drop (hT5 (s31.1, s31.2.1, x35) (hs3.tr hs32)) (And.intro rfl (And.intro rfl (And.intro rfl (And.intro rfl trivial))))
      · refine s_join s2.1 (fun s37 : Unit => s2.1) 45 (fun s37 : Unit => [some (.ref (gh (xG X) + a0)), some (.ref (gh (xG X) + a1)), none, some (.int s2.2.1), some (.int s2.2.2), some (.int x28), some (.int x29), none, none]) (fun s37 : Unit => []) (fun s37 hs38 => ?_) (fun j36 hj39 => ?_)
        · show S0 X _ s2.1 45 [some (.ref (gh (xG X) + a0)), some (.ref (gh (xG X) + a1)), none, some (.int s2.2.1), some (.int s2.2.2), some (.int x28), some (.int x29), none, none] [] _
          refine s_iload_n (pc := 45) 3 dX3_run_45 rfl rfl ?_
          refine s_aload_n (pc := 46) 0 dX3_run_46 rfl rfl ?_
          refine s_grd (fun o40 => ?_)
          refine s_geto (pc := 47) F_3 1 rfl o40 dX3_run_47 kf_X3_15 ?_
          refine s_rvB (fun r41 => ?_)
          refine s_grd (fun o42 => ?_)
          refine s_alen (pc := 50) 15 (And.intro (nle rfl) (nle rfl)) o42 dX3_run_50 ?_
          refine s_icge (pc := 51) 67 dX3_run_51 rfl ?_ ?_
          · exact s_drop (hR15 s2.1 hs3) trivial
          · refine s_iload (pc := 54) dX3_run_54 rfl ?_
            refine s_iconst (pc := 56) 2 dX3_run_56 kc_2 ?_
            refine s_join s2.1 (fun s44 : Unit => s2.1) 71 (fun s44 : Unit => [some (.ref (gh (xG X) + a0)), some (.ref (gh (xG X) + a1)), none, some (.int s2.2.1), some (.int s2.2.2), some (.int x28), some (.int x29), none, none]) (fun s44 : Unit => []) (fun s44 hs45 => ?_) (fun j43 hj46 => ?_)
            · show S0 X _ s2.1 71 [some (.ref (gh (xG X) + a0)), some (.ref (gh (xG X) + a1)), none, some (.int s2.2.1), some (.int s2.2.2), some (.int x28), some (.int x29), none, none] [] _
              refine s_aload_n (pc := 71) 0 dX3_run_71 rfl rfl ?_
              refine s_geto (pc := 72) F_3 1 rfl o40 dX3_run_72 kf_X3_15 ?_
              refine s_rvB (fun r47 => ?_)
              refine s_iload_n (pc := 75) 3 dX3_run_75 rfl rfl ?_
              refine s_iload (pc := 76) dX3_run_76 rfl ?_
              refine s_iconst (pc := 78) 1 dX3_run_78 kc_1 ?_
              refine s_join s2.1 (fun s49 : Int64 => s2.1) 96 (fun s49 : Int64 => [some (.ref (gh (xG X) + a0)), some (.ref (gh (xG X) + a1)), none, some (.int s2.2.1), some (.int s2.2.2), none, none, none, none]) (fun s49 : Int64 => [.long s49, .int s2.2.1, .ref (gh (xG X) + r47)]) (fun s49 hs50 => ?_) (fun j48 hj51 => ?_)
              · show S0 X _ s2.1 96 [some (.ref (gh (xG X) + a0)), some (.ref (gh (xG X) + a1)), none, some (.int s2.2.1), some (.int s2.2.2), none, none, none, none] [.long s49, .int s2.2.1, .ref (gh (xG X) + r47)] _
                refine s_grd (fun o52 => ?_)
                refine s_grd (fun i53 => ?_)
                refine s_last (pc := 96) o52 i53 dX3_run_96 (fun M54 hM55 => ?_)
                have h56 := le_wJ hM55
                have o57 := h56.ok o26
                have o58 := h56.ok o40
                refine s_iinc (pc := 97) dX3_run_97 rfl (v := s2.2.1 + 1) (congrArg (fun z : Int32 => s2.2.1 + z) kc_1) (nlt rfl) rfl (L' := [some (.ref (gh (xG X) + a0)), some (.ref (gh (xG X) + a1)), none, some (.int (s2.2.1 + 1)), some (.int s2.2.2), none, none, none, none]) rfl ?_
                refine s_bv (fun x59 : Int32 => [some (.ref (gh (xG X) + a0)), some (.ref (gh (xG X) + a1)), none, some (.int x59), some (.int s2.2.2), none, none, none, none]) (fun x59 => ?_) rfl
                refine s_goto (pc := 100) 303 dX3_run_100 rfl ?_
                exact s_drop (hj33 (M54, x59, s2.2.2) h56) (And.intro rfl (And.intro rfl (And.intro rfl (And.intro rfl trivial))))
              · refine s_icne (pc := 79) 88 dX3_run_79 rfl ?_ ?_
                · refine s_aload_n (pc := 88) 0 dX3_run_88 rfl rfl ?_
                  refine s_geto (pc := 89) F_3 0 rfl o40 dX3_run_89 kf_X3_9 ?_
                  refine s_rvB (fun r60 => ?_)
                  refine s_iload (pc := 92) dX3_run_92 rfl ?_
                  refine s_grd (fun o61 => ?_)
                  refine s_grd (fun i62 => ?_)
                  refine s_iald (pc := 94) o61 i62 dX3_run_94 ?_
                  refine s_i2l (pc := 95) dX3_run_95 ?_
                  exact s_drop (hj51 ((mI s2.1 r60 x29.toNatClampNeg).toInt64) Le.rf) (And.intro rfl (And.intro rfl (And.intro rfl (And.intro rfl trivial))))
                · refine s_iload (pc := 82) dX3_run_82 rfl ?_
                  refine s_i2l (pc := 84) dX3_run_84 ?_
                  refine s_goto (pc := 85) 96 dX3_run_85 rfl ?_
                  exact s_drop (hj51 x29.toInt64 Le.rf) (And.intro rfl (And.intro rfl (And.intro rfl (And.intro rfl trivial))))
            · refine s_icne (pc := 57) 71 dX3_run_57 rfl ?_ ?_
              · exact s_drop (hj46 () Le.rf) (And.intro rfl (And.intro rfl (And.intro rfl (And.intro rfl (And.intro rfl (And.intro rfl trivial))))))
              · refine s_iload (pc := 60) dX3_run_60 rfl ?_
                refine s_bipush (pc := 62) 88 dX3_run_62 kb_88 ?_
                refine s_iclt (pc := 64) 71 dX3_run_64 rfl ?_ ?_
                · exact s_drop (hj46 () Le.rf) (And.intro rfl (And.intro rfl (And.intro rfl (And.intro rfl (And.intro rfl (And.intro rfl trivial))))))
                · exact s_drop (hR15 s2.1 hs3) trivial
        · refine s_iceq (pc := 36) 45 dX3_run_36 rfl ?_ ?_
          · exact s_drop (hj39 () Le.rf) (And.intro rfl (And.intro rfl (And.intro rfl (And.intro rfl (And.intro rfl (And.intro rfl trivial))))))
          · refine s_iload (pc := 39) dX3_run_39 rfl ?_
            refine s_iconst (pc := 41) 2 dX3_run_41 kc_2 ?_
            refine s_icne (pc := 42) 103 dX3_run_42 rfl ?_ ?_
            · refine s_iload_n (pc := 103) 3 dX3_run_103 rfl rfl ?_
              refine s_iconst (pc := 104) 1 dX3_run_104 kc_1 ?_
              refine s_icge (pc := 105) 112 dX3_run_105 rfl ?_ ?_
              · refine s_iload (pc := 112) dX3_run_112 rfl ?_
                refine s_ifne (pc := 114) 124 dX3_run_114 rfl ?_ ?_
                · refine s_iload (pc := 124) dX3_run_124 rfl ?_
                  refine s_bipush (pc := 126) 11 dX3_run_126 kb_11 ?_
                  refine s_icne (pc := 128) 152 dX3_run_128 rfl ?_ ?_
                  · refine s_iload (pc := 152) dX3_run_152 rfl ?_
                    refine s_bipush (pc := 154) 12 dX3_run_154 kb_12 ?_
                    refine s_join s2.1 (fun s64 : Unit => s2.1) 166 (fun s64 : Unit => [some (.ref (gh (xG X) + a0)), some (.ref (gh (xG X) + a1)), none, some (.int s2.2.1), some (.int s2.2.2), some (.int x28), some (.int x29), none, none]) (fun s64 : Unit => []) (fun s64 hs65 => ?_) (fun j63 hj66 => ?_)
                    · show S0 X _ s2.1 166 [some (.ref (gh (xG X) + a0)), some (.ref (gh (xG X) + a1)), none, some (.int s2.2.1), some (.int s2.2.2), some (.int x28), some (.int x29), none, none] [] _
                      refine s_aload_n (pc := 166) 0 dX3_run_166 rfl rfl ?_
                      refine s_grd (fun o67 => ?_)
                      refine s_geto (pc := 167) F_3 1 rfl o67 dX3_run_167 kf_X3_15 ?_
                      refine s_rvB (fun r68 => ?_)
                      refine s_iload_n (pc := 170) 3 dX3_run_170 rfl rfl ?_
                      refine s_iconst (pc := 171) 1 dX3_run_171 kc_1 ?_
                      refine s_isub (pc := 172) dX3_run_172 ?_
                      refine s_grd (fun o69 => ?_)
                      refine s_grd (fun i70 => ?_)
                      refine s_lald (pc := 173) o69 i70 dX3_run_173 ?_
                      refine s_lconst (pc := 174) 1 dX3_run_174 kl_1 ?_
                      refine s_lcmp (pc := 175) dX3_run_175 ?_
                      refine s_join s2.1 (fun s72 : Int32 => s2.1) 184 (fun s72 : Int32 => [some (.ref (gh (xG X) + a0)), some (.ref (gh (xG X) + a1)), none, some (.int s2.2.1), some (.int s2.2.2), some (.int x28), some (.int x29), none, none]) (fun s72 : Int32 => [.int s72]) (fun s72 hs73 => ?_) (fun j71 hj74 => ?_)
                      · show S0 X _ s2.1 184 [some (.ref (gh (xG X) + a0)), some (.ref (gh (xG X) + a1)), none, some (.int s2.2.1), some (.int s2.2.2), some (.int x28), some (.int x29), none, none] [.int s72] _
                        refine s_iload (pc := 184) dX3_run_184 rfl ?_
                        refine s_bipush (pc := 186) 12 dX3_run_186 kb_12 ?_
                        refine s_join s2.1 (fun s76 : Int32 => s2.1) 196 (fun s76 : Int32 => [some (.ref (gh (xG X) + a0)), some (.ref (gh (xG X) + a1)), none, some (.int s2.2.1), some (.int s2.2.2), none, some (.int x29), none, none]) (fun s76 : Int32 => [.int s76, .int s72]) (fun s76 hs77 => ?_) (fun j75 hj78 => ?_)
                        · show S0 X _ s2.1 196 [some (.ref (gh (xG X) + a0)), some (.ref (gh (xG X) + a1)), none, some (.int s2.2.1), some (.int s2.2.2), none, some (.int x29), none, none] [.int s76, .int s72] _
                          refine s_join s2.1 (fun s80 : Int32 => s2.1) 204 (fun s80 : Int32 => [some (.ref (gh (xG X) + a0)), some (.ref (gh (xG X) + a1)), none, some (.int s2.2.1), some (.int s2.2.2), none, some (.int x29), none, none]) (fun s80 : Int32 => [.int s80]) (fun s80 hs81 => ?_) (fun j79 hj82 => ?_)
                          · show S0 X _ s2.1 204 [some (.ref (gh (xG X) + a0)), some (.ref (gh (xG X) + a1)), none, some (.int s2.2.1), some (.int s2.2.2), none, some (.int x29), none, none] [.int s80] _
                            refine s_istore (pc := 204) dX3_run_204 (nlt rfl) rfl (L' := [some (.ref (gh (xG X) + a0)), some (.ref (gh (xG X) + a1)), none, some (.int s2.2.1), some (.int s2.2.2), none, some (.int x29), some (.int s80), none]) rfl ?_
                            refine s_iload (pc := 206) dX3_run_206 rfl ?_
                            refine s_join s2.1 (fun s84 : Int32 => s2.1) 225 (fun s84 : Int32 => [some (.ref (gh (xG X) + a0)), some (.ref (gh (xG X) + a1)), none, some (.int s2.2.1), none, none, none, some (.int s80), none]) (fun s84 : Int32 => [.int s84]) (fun s84 hs85 => ?_) (fun j83 hj86 => ?_)
                            · show S0 X _ s2.1 225 [some (.ref (gh (xG X) + a0)), some (.ref (gh (xG X) + a1)), none, some (.int s2.2.1), none, none, none, some (.int s80), none] [.int s84] _
                              refine s_istore (pc := 225) dX3_run_225 (nlt rfl) rfl (L' := [some (.ref (gh (xG X) + a0)), some (.ref (gh (xG X) + a1)), none, some (.int s2.2.1), some (.int s84), none, none, some (.int s80), none]) rfl ?_
                              refine s_iload (pc := 227) dX3_run_227 rfl ?_
                              refine s_join s2.1 (fun s88 : Int32 => s2.1) 239 (fun s88 : Int32 => [some (.ref (gh (xG X) + a0)), some (.ref (gh (xG X) + a1)), none, none, some (.int s84), none, none, none, none]) (fun s88 : Int32 => [.int s88]) (fun s88 hs89 => ?_) (fun j87 hj90 => ?_)
                              · show S0 X _ s2.1 239 [some (.ref (gh (xG X) + a0)), some (.ref (gh (xG X) + a1)), none, none, some (.int s84), none, none, none, none] [.int s88] _
                                refine s_istore_n (pc := 239) 3 dX3_run_239 rfl (nlt rfl) rfl (L' := [some (.ref (gh (xG X) + a0)), some (.ref (gh (xG X) + a1)), none, some (.int s88), some (.int s84), none, none, none, none]) rfl ?_
                                refine s_goto (pc := 240) 303 dX3_run_240 rfl ?_
                                exact s_drop (hj33 (s2.1, s88, s84) Le.rf) (And.intro rfl (And.intro rfl (And.intro rfl (And.intro rfl trivial))))
                              · refine s_ifeq (pc := 229) 236 dX3_run_229 rfl ?_ ?_
                                · refine s_iload_n (pc := 236) 3 dX3_run_236 rfl rfl ?_
                                  refine s_iconst (pc := 237) 1 dX3_run_237 kc_1 ?_
                                  refine s_isub (pc := 238) dX3_run_238 ?_
                                  exact s_drop (hj90 (s2.2.1 - 1) Le.rf) (And.intro rfl (And.intro rfl (And.intro rfl trivial)))
                                · refine s_iload_n (pc := 232) 3 dX3_run_232 rfl rfl ?_
                                  refine s_goto (pc := 233) 239 dX3_run_233 rfl ?_
                                  exact s_drop (hj90 s2.2.1 Le.rf) (And.intro rfl (And.intro rfl (And.intro rfl trivial)))
                            · refine s_ifeq (pc := 208) 223 dX3_run_208 rfl ?_ ?_
                              · refine s_iload (pc := 223) dX3_run_223 rfl ?_
                                exact s_drop (hj86 s2.2.2 Le.rf) (And.intro rfl (And.intro rfl (And.intro rfl (And.intro rfl trivial))))
                              · refine s_iload (pc := 211) dX3_run_211 rfl ?_
                                refine s_iload (pc := 213) dX3_run_213 rfl ?_
                                refine s_iconst (pc := 215) 1 dX3_run_215 kc_1 ?_
                                refine s_isub (pc := 216) dX3_run_216 ?_
                                refine s_mmax (pc := 217) km_X3_19 wt_J9_max_7cf53 wn_J9 wc_mmax (nle rfl) (nle rfl) dX3_run_217 ?_
                                refine s_goto (pc := 220) 225 dX3_run_220 rfl ?_
                                exact s_drop (hj86 (mmax s2.2.2 (x29 - 1)) Le.rf) (And.intro rfl (And.intro rfl (And.intro rfl (And.intro rfl trivial))))
                          · refine s_icne (pc := 196) 203 dX3_run_196 rfl ?_ ?_
                            · refine s_iconst (pc := 203) 0 dX3_run_203 kc_0 ?_
                              exact s_drop (hj82 0 Le.rf) (And.intro rfl (And.intro rfl (And.intro rfl (And.intro rfl (And.intro rfl trivial)))))
                            · refine s_iconst (pc := 199) 1 dX3_run_199 kc_1 ?_
                              refine s_goto (pc := 200) 204 dX3_run_200 rfl ?_
                              exact s_drop (hj82 1 Le.rf) (And.intro rfl (And.intro rfl (And.intro rfl (And.intro rfl (And.intro rfl trivial)))))
                        · refine s_icne (pc := 188) 195 dX3_run_188 rfl ?_ ?_
                          · refine s_iconst (pc := 195) 0 dX3_run_195 kc_0 ?_
                            exact s_drop (hj78 0 Le.rf) (And.intro rfl (And.intro rfl (And.intro rfl (And.intro rfl (And.intro rfl trivial)))))
                          · refine s_iconst (pc := 191) 1 dX3_run_191 kc_1 ?_
                            refine s_goto (pc := 192) 196 dX3_run_192 rfl ?_
                            exact s_drop (hj78 1 Le.rf) (And.intro rfl (And.intro rfl (And.intro rfl (And.intro rfl (And.intro rfl trivial)))))
                      · refine s_ifne (pc := 176) 183 dX3_run_176 rfl ?_ ?_
                        · refine s_iconst (pc := 183) 0 dX3_run_183 kc_0 ?_
                          exact s_drop (hj74 0 Le.rf) (And.intro rfl (And.intro rfl (And.intro rfl (And.intro rfl (And.intro rfl (And.intro rfl trivial))))))
                        · refine s_iconst (pc := 179) 1 dX3_run_179 kc_1 ?_
                          refine s_goto (pc := 180) 184 dX3_run_180 rfl ?_
                          exact s_drop (hj74 1 Le.rf) (And.intro rfl (And.intro rfl (And.intro rfl (And.intro rfl (And.intro rfl (And.intro rfl trivial))))))
                    · refine s_iceq (pc := 156) 166 dX3_run_156 rfl ?_ ?_
                      · exact s_drop (hj66 () Le.rf) (And.intro rfl (And.intro rfl (And.intro rfl (And.intro rfl (And.intro rfl (And.intro rfl trivial))))))
                      · refine s_iload (pc := 159) dX3_run_159 rfl ?_
                        refine s_bipush (pc := 161) 13 dX3_run_161 kb_13 ?_
                        refine s_icne (pc := 163) 243 dX3_run_163 rfl ?_ ?_
                        · refine s_iload_n (pc := 243) 3 dX3_run_243 rfl rfl ?_
                          refine s_iconst (pc := 244) 2 dX3_run_244 kc_2 ?_
                          refine s_join s2.1 (fun s92 : Int64 => s2.1) 275 (fun s92 : Int64 => [some (.ref (gh (xG X) + a0)), some (.ref (gh (xG X) + a1)), none, some (.int s2.2.1), some (.int s2.2.2), none, none, none, none]) (fun s92 : Int64 => [.long s92]) (fun s92 hs93 => ?_) (fun j91 hj94 => ?_)
                          · show S0 X _ s2.1 275 [some (.ref (gh (xG X) + a0)), some (.ref (gh (xG X) + a1)), none, some (.int s2.2.1), some (.int s2.2.2), none, none, none, none] [.long s92] _
                            refine s_lstore (pc := 275) dX3_run_275 (nlt rfl) rfl (L' := [some (.ref (gh (xG X) + a0)), some (.ref (gh (xG X) + a1)), none, some (.int s2.2.1), some (.int s2.2.2), none, none, some (.long s92), none]) rfl ?_
                            refine s_lload (pc := 277) dX3_run_277 rfl ?_
                            refine s_ldc2 (pc := 279) dX3_run_279 kl_X3_25 ?_
                            refine s_lcmp (pc := 282) dX3_run_282 ?_
                            refine s_ifne (pc := 283) 290 dX3_run_283 rfl ?_ ?_
                            · refine s_iinc (pc := 290) dX3_run_290 rfl (v := s2.2.1 + (-1)) (congrArg (fun z : Int32 => s2.2.1 + z) kc_m1) (nlt rfl) rfl (L' := [some (.ref (gh (xG X) + a0)), some (.ref (gh (xG X) + a1)), none, some (.int (s2.2.1 + (-1))), some (.int s2.2.2), none, none, some (.long s92), none]) rfl ?_
                              refine s_bv (fun x95 : Int32 => [some (.ref (gh (xG X) + a0)), some (.ref (gh (xG X) + a1)), none, some (.int x95), some (.int s2.2.2), none, none, some (.long s92), none]) (fun x95 => ?_) rfl
                              refine s_aload_n (pc := 293) 0 dX3_run_293 rfl rfl ?_
                              refine s_grd (fun o96 => ?_)
                              refine s_geto (pc := 294) F_3 1 rfl o96 dX3_run_294 kf_X3_15 ?_
                              refine s_rvB (fun r97 => ?_)
                              refine s_iload_n (pc := 297) 3 dX3_run_297 rfl rfl ?_
                              refine s_iconst (pc := 298) 1 dX3_run_298 kc_1 ?_
                              refine s_isub (pc := 299) dX3_run_299 ?_
                              refine s_lload (pc := 300) dX3_run_300 rfl ?_
                              refine s_grd (fun o98 => ?_)
                              refine s_grd (fun i99 => ?_)
                              refine s_last (pc := 302) o98 i99 dX3_run_302 (fun M100 hM101 => ?_)
                              have h102 := le_wJ hM101
                              have o103 := h102.ok o26
                              have o104 := h102.ok o96
                              exact s_drop (hj33 (M100, x95, s2.2.2) h102) (And.intro rfl (And.intro rfl (And.intro rfl (And.intro rfl trivial))))
                            · exact s_drop (hR13 s2.1 hs3) trivial
                          · refine s_icge (pc := 245) 254 dX3_run_245 rfl ?_ ?_
                            · refine s_iload (pc := 254) dX3_run_254 rfl ?_
                              refine s_aload_n (pc := 256) 0 dX3_run_256 rfl rfl ?_
                              refine s_grd (fun o105 => ?_)
                              refine s_geto (pc := 257) F_3 1 rfl o105 dX3_run_257 kf_X3_15 ?_
                              refine s_rvB (fun r106 => ?_)
                              refine s_iload_n (pc := 260) 3 dX3_run_260 rfl rfl ?_
                              refine s_iconst (pc := 261) 2 dX3_run_261 kc_2 ?_
                              refine s_isub (pc := 262) dX3_run_262 ?_
                              refine s_grd (fun o107 => ?_)
                              refine s_grd (fun i108 => ?_)
                              refine s_lald (pc := 263) o107 i108 dX3_run_263 ?_
                              refine s_aload_n (pc := 264) 0 dX3_run_264 rfl rfl ?_
                              refine s_geto (pc := 265) F_3 1 rfl o105 dX3_run_265 kf_X3_15 ?_
                              refine s_rvB (fun r109 => ?_)
                              refine s_iload_n (pc := 268) 3 dX3_run_268 rfl rfl ?_
                              refine s_iconst (pc := 269) 1 dX3_run_269 kc_1 ?_
                              refine s_isub (pc := 270) dX3_run_270 ?_
                              refine s_grd (fun o110 => ?_)
                              refine s_grd (fun i111 => ?_)
                              refine s_lald (pc := 271) o110 i111 dX3_run_271 ?_
                              refine s_bind (fun q112 hq113 => ?_)
                              have hC114 := t_X3_apply (l := xl X) (G := xG X) (M := s2.1) hq113
                              refine s_callS (pc := 272) (As := [.int x28, .long (mJ s2.1 r106 (s2.2.1 - 2).toNatClampNeg), .long (mJ s2.1 r109 (s2.2.1 - 1).toNatClampNeg)]) (st := []) cl_X3_apply wt_X3_apply km_X3_27 rfl rfl (nle rfl) (nle rfl) (nle rfl) dX3_run_272 hC114 ?_
                              show S0 X _ s2.1 275 [some (.ref (gh (xG X) + a0)), some (.ref (gh (xG X) + a1)), none, some (.int s2.2.1), some (.int s2.2.2), some (.int x28), some (.int x29), none, none] [.long q112] _
                              exact s_drop (hj94 q112 Le.rf) (And.intro rfl (And.intro rfl (And.intro rfl (And.intro rfl trivial))))
                            · refine s_ldc2 (pc := 248) dX3_run_248 kl_X3_25 ?_
                              refine s_goto (pc := 251) 275 dX3_run_251 rfl ?_
                              exact s_drop (hj94 (-4611686018427387904) Le.rf) (And.intro rfl (And.intro rfl (And.intro rfl (And.intro rfl trivial))))
                        · exact s_drop (hj66 () Le.rf) (And.intro rfl (And.intro rfl (And.intro rfl (And.intro rfl (And.intro rfl (And.intro rfl trivial))))))
                  · refine s_aload_n (pc := 131) 0 dX3_run_131 rfl rfl ?_
                    refine s_grd (fun o115 => ?_)
                    refine s_geto (pc := 132) F_3 1 rfl o115 dX3_run_132 kf_X3_15 ?_
                    refine s_rvB (fun r116 => ?_)
                    refine s_iload_n (pc := 135) 3 dX3_run_135 rfl rfl ?_
                    refine s_iconst (pc := 136) 1 dX3_run_136 kc_1 ?_
                    refine s_isub (pc := 137) dX3_run_137 ?_
                    refine s_lconst (pc := 138) 1 dX3_run_138 kl_1 ?_
                    refine s_aload_n (pc := 139) 0 dX3_run_139 rfl rfl ?_
                    refine s_geto (pc := 140) F_3 1 rfl o115 dX3_run_140 kf_X3_15 ?_
                    refine s_rvB (fun r117 => ?_)
                    refine s_iload_n (pc := 143) 3 dX3_run_143 rfl rfl ?_
                    refine s_iconst (pc := 144) 1 dX3_run_144 kc_1 ?_
                    refine s_isub (pc := 145) dX3_run_145 ?_
                    refine s_grd (fun o118 => ?_)
                    refine s_grd (fun i119 => ?_)
                    refine s_lald (pc := 146) o118 i119 dX3_run_146 ?_
                    refine s_lsub (pc := 147) dX3_run_147 ?_
                    refine s_grd (fun o120 => ?_)
                    refine s_grd (fun i121 => ?_)
                    refine s_last (pc := 148) o120 i121 dX3_run_148 (fun M122 hM123 => ?_)
                    have h124 := le_wJ hM123
                    have o125 := h124.ok o26
                    have o126 := h124.ok o115
                    refine s_goto (pc := 149) 303 dX3_run_149 rfl ?_
                    exact s_drop (hj33 (M122, s2.2.1, s2.2.2) h124) (And.intro rfl (And.intro rfl (And.intro rfl (And.intro rfl trivial))))
                · exact s_drop (hR11 s2.1 hs3) (And.intro rfl trivial)
              · exact s_drop (hR9 s2.1 hs3) trivial
            · exact s_drop (hj39 () Le.rf) (And.intro rfl (And.intro rfl (And.intro rfl (And.intro rfl (And.intro rfl (And.intro rfl trivial))))))
set_option maxRecDepth 100000 in
set_option maxHeartbeats 8000000 in
noncomputable def f_X5_bestMother (M : Mem) (a0 : Nat) (p1 : Int32) : Option Int32 :=
  if p1 < 0 then (some (-1)) else (grd (okO M 5 a0) (if p1 < (mI M a0 7) then (Option.bind (mR M a0 3) (fun r2 => grd (okO M 14 r2) (grd (vp_in p1 (mL M r2)) (if (mI M r2 p1.toNatClampNeg) = (-1) then (some 100) else (Option.bind (mR M a0 3) (fun r5 => grd (okO M 14 r5) (grd (vp_in p1 (mL M r5)) (Option.bind (f_X5_houseAt M a0 (mI M r5 p1.toNatClampNeg)) (fun q8 => some q8))))))))) else (some (-1))))
abbrev Y_X5_bestMother : Sta := (RX5, "bestMother", cX5_bestMother, 2, (some .int), 2)
set_option maxRecDepth 100000 in
set_option maxHeartbeats 8000000 in
theorem t_X5_bestMother {l : Launch} {G : Gh} {M : Mem} {a0 : Nat} {p1 : Int32} {q : Int32} (h : f_X5_bestMother M a0 p1 = some q) : Ctr l G yX5_bestMother Y_X5_bestMother M [.ref (gh G + a0), .int p1] M (some (.int q)) := by
  refine Ctr.of (Y := Y_X5_bestMother) (L := [some (.ref (gh G + a0)), some (.int p1)]) (t := Option.bind (f_X5_bestMother M a0 p1) (fun q => some (M, some (.int q)))) (by decide) rfl rfl (nle rfl) (Lof_in 0 _ rfl) (fun X hG hl => ?_) (by rw [h]; rfl)
  subst hG
  subst hl
  unfold f_X5_bestMother
  refine s_iload_n (pc := 0) 1 dX5_bestMother_0 rfl rfl ?_
  refine s_iflt (pc := 1) 12 dX5_bestMother_1 rfl ?_ ?_
  · refine s_iconst (pc := 12) (-1) dX5_bestMother_12 kc_m1 ?_
    exact s_iret rfl dX5_bestMother_13
  · refine s_iload_n (pc := 4) 1 dX5_bestMother_4 rfl rfl ?_
    refine s_aload_n (pc := 5) 0 dX5_bestMother_5 rfl rfl ?_
    refine s_grd (fun o1 => ?_)
    refine s_geti (pc := 6) F_5 7 rfl o1 dX5_bestMother_6 kf_X5_40 ?_
    refine s_iclt (pc := 9) 14 dX5_bestMother_9 rfl ?_ ?_
    · refine s_aload_n (pc := 14) 0 dX5_bestMother_14 rfl rfl ?_
      refine s_geto (pc := 15) F_5 3 rfl o1 dX5_bestMother_15 kf_X5_21 ?_
      refine s_rvB (fun r2 => ?_)
      refine s_iload_n (pc := 18) 1 dX5_bestMother_18 rfl rfl ?_
      refine s_grd (fun o3 => ?_)
      refine s_grd (fun i4 => ?_)
      refine s_iald (pc := 19) o3 i4 dX5_bestMother_19 ?_
      refine s_iconst (pc := 20) (-1) dX5_bestMother_20 kc_m1 ?_
      refine s_icne (pc := 21) 29 dX5_bestMother_21 rfl ?_ ?_
      · refine s_aload_n (pc := 29) 0 dX5_bestMother_29 rfl rfl ?_
        refine s_aload_n (pc := 30) 0 dX5_bestMother_30 rfl rfl ?_
        refine s_geto (pc := 31) F_5 3 rfl o1 dX5_bestMother_31 kf_X5_21 ?_
        refine s_rvB (fun r5 => ?_)
        refine s_iload_n (pc := 34) 1 dX5_bestMother_34 rfl rfl ?_
        refine s_grd (fun o6 => ?_)
        refine s_grd (fun i7 => ?_)
        refine s_iald (pc := 35) o6 i7 dX5_bestMother_35 ?_
        refine s_bind (fun q8 hq9 => ?_)
        have hC10 := t_X5_houseAt (l := xl X) (G := xG X) hq9
        refine s_callV (pc := 36) (As := [.int (mI M r5 p1.toNatClampNeg)]) (st := []) (nlt rfl) (q := (RX5, TX5, 12)) rfl rfl o1 cl_X5_houseAt wi_X5_houseAt wl_X5_houseAt km_X5_44 rfl rfl (nle rfl) (nle rfl) (nle rfl) dX5_bestMother_36 hC10 ?_
        show S0 X _ M 39 [some (.ref (gh (xG X) + a0)), some (.int p1)] [.int q8] _
        exact s_iret rfl dX5_bestMother_39
      · refine s_bipush (pc := 24) 100 dX5_bestMother_24 kb_100 ?_
        refine s_goto (pc := 26) 39 dX5_bestMother_26 rfl ?_
        exact s_iret rfl dX5_bestMother_39
    · refine s_iconst (pc := 12) (-1) dX5_bestMother_12 kc_m1 ?_
      exact s_iret rfl dX5_bestMother_13
abbrev Y_X5_seek (d : Nat) : Sta := (RX5, "seek", cX5_seek, 7, none, 2 + d)
set_option maxRecDepth 100000 in
set_option maxHeartbeats 8000000 in
noncomputable def b_X5_seek (g_X5_seek : Mem → Nat → Int32 → Int32 → Int32 → Option Mem) (M : Mem) (a0 : Nat) (p1 : Int32) (p2 : Int32) (p3 : Int32) : Option Mem :=
  grd (okO M 5 a0) (if p1 < (mI M a0 7) then (Option.bind (mR M a0 5) (fun r2 => grd (okO M 14 r2) (grd (vp_in p1 (mL M r2)) (bv (fun (s6 : Int32) => bv ((((mI M a0 10) - p3) - (mI M r2 p1.toNatClampNeg)) + s6 : Int32) (fun x9 => if 0 ≤ x9 then (bv (fun (s11 : Mem) => Option.bind (loopO (σ := Mem × Int32) (ρ := Mem) (fun s15 => if (mI s15.1 a0 7) ≤ s15.2 then (some (.inr s15.1)) else (Option.bind (mR s15.1 a0 1) (fun r24 => grd (okO s15.1 14 r24) (grd (vp_in ((s15.2 * 6) + p1) (mL s15.1 r24)) (bv (mI s15.1 r24 ((s15.2 * 6) + p1).toNatClampNeg : Int32) (fun x27 => bv (fun (s29 : Mem) => bv (s15.2 + 1 : Int32) (fun x33 => some (.inl (s29, x33)))) (fun j28 => if (mI s15.1 a0 10) < (p3 + x27) then (j28 s15.1) else (Option.bind (f_X5_comesOf s15.1 a0 s15.2 p1) (fun q34 => if q34 = 0 then (Option.bind (mR s15.1 a0 2) (fun r37 => grd (okO s15.1 14 r37) (grd (vp_in p1 (mL s15.1 r37)) (bv (wI s15.1 r37 p1.toNatClampNeg s15.2) (fun M40 => Option.bind (g_X5_seek M40 a0 (p1 + 1) p2 (p3 + x27)) (fun q44 => j28 q44)))))) else (j28 s15.1)))))))))) (s11, 0)) (fun (x22 : Mem) => some x22)) (fun j10 => if p2 = (-1) then (Option.bind (mR M a0 2) (fun r49 => grd (okO M 14 r49) (grd (vp_in p1 (mL M r49)) (bv (wI M r49 p1.toNatClampNeg (-1)) (fun M52 => Option.bind (g_X5_seek M52 a0 (p1 + 1) p1 p3) (fun q56 => j10 q56)))))) else (j10 M))) else (some M))) (fun j5 => if p2 = (-1) then (Option.bind (mR M a0 6) (fun r61 => grd (okO M 14 r61) (grd (vp_in p1 (mL M r61)) (j5 (mI M r61 p1.toNatClampNeg))))) else (j5 0)))))) else (if p2 = (-1) then (some M) else (if p3 = (mI M a0 10) then (Option.bind (f_X5_noteRow M a0) (fun q64 => some q64)) else (some M))))
set_option maxRecDepth 100000 in
set_option maxHeartbeats 8000000 in
theorem t_X5_seek {d : Nat} {g_X5_seek : Mem → Nat → Int32 → Int32 → Int32 → Option Mem} {l : Launch} {G : Gh} {M : Mem} {a0 : Nat} {p1 : Int32} {p2 : Int32} {p3 : Int32} {q : Mem} (hg_X5_seek : ∀ X : Ctx, xG X = G → xl X = l → ∀ (M : Mem) (a0 : Nat) (p1 : Int32) (p2 : Int32) (p3 : Int32) (q : Mem), g_X5_seek M a0 p1 p2 p3 = some q → Ctr (xl X) (xG X) yX5_seek (Y_X5_seek d) M [.ref (gh (xG X) + a0), .int p1, .int p2, .int p3] q (none)) (h : b_X5_seek g_X5_seek M a0 p1 p2 p3 = some q) : Ctr l G yX5_seek (Y_X5_seek (d + 1)) M [.ref (gh G + a0), .int p1, .int p2, .int p3] q (none) := by
  refine Ctr.of (Y := (Y_X5_seek (d + 1))) (L := [some (.ref (gh G + a0)), some (.int p1), some (.int p2), some (.int p3), none, none, none]) (t := Option.bind (b_X5_seek g_X5_seek M a0 p1 p2 p3) (fun q => some (q, (none : Option Value)))) (by decide) rfl rfl (nle rfl) (Lof_in 3 _ rfl) (fun X hG hl => ?_) (by rw [h]; rfl)
  subst hG
  subst hl
  unfold b_X5_seek
  refine s_iload_n (pc := 0) 1 dX5_seek_0 rfl rfl ?_
  refine s_aload_n (pc := 1) 0 dX5_seek_1 rfl rfl ?_
  refine s_grd (fun o1 => ?_)
  refine s_geti (pc := 2) F_5 7 rfl o1 dX5_seek_2 kf_X5_40 ?_
  refine s_iclt (pc := 5) 26 dX5_seek_5 rfl ?_ ?_
  · refine s_aload_n (pc := 26) 0 dX5_seek_26 rfl rfl ?_
    refine s_geti (pc := 27) F_5 10 rfl o1 dX5_seek_27 kf_X5_57 ?_
    refine s_iload_n (pc := 30) 3 dX5_seek_30 rfl rfl ?_
    refine s_isub (pc := 31) dX5_seek_31 ?_
    refine s_aload_n (pc := 32) 0 dX5_seek_32 rfl rfl ?_
    refine s_geto (pc := 33) F_5 5 rfl o1 dX5_seek_33 kf_X5_27 ?_
    refine s_rvB (fun r2 => ?_)
    refine s_iload_n (pc := 36) 1 dX5_seek_36 rfl rfl ?_
    refine s_grd (fun o3 => ?_)
    refine s_grd (fun i4 => ?_)
    refine s_iald (pc := 37) o3 i4 dX5_seek_37 ?_
    refine s_isub (pc := 38) dX5_seek_38 ?_
    refine s_iload_n (pc := 39) 2 dX5_seek_39 rfl rfl ?_
    refine s_iconst (pc := 40) (-1) dX5_seek_40 kc_m1 ?_
    refine s_join M (fun s6 : Int32 => M) 54 (fun s6 : Int32 => [some (.ref (gh (xG X) + a0)), some (.int p1), some (.int p2), some (.int p3), none, none, none]) (fun s6 : Int32 => [.int s6, .int (((mI M a0 10) - p3) - (mI M r2 p1.toNatClampNeg))]) (fun s6 hs7 => ?_) (fun j5 hj8 => ?_)
    · show S0 X _ M 54 [some (.ref (gh (xG X) + a0)), some (.int p1), some (.int p2), some (.int p3), none, none, none] [.int s6, .int (((mI M a0 10) - p3) - (mI M r2 p1.toNatClampNeg))] _
      refine s_iadd (pc := 54) dX5_seek_54 ?_
      refine s_istore (pc := 55) dX5_seek_55 (nlt rfl) rfl (L' := [some (.ref (gh (xG X) + a0)), some (.int p1), some (.int p2), some (.int p3), some (.int ((((mI M a0 10) - p3) - (mI M r2 p1.toNatClampNeg)) + s6)), none, none]) rfl ?_
      refine s_bv (fun x9 : Int32 => [some (.ref (gh (xG X) + a0)), some (.int p1), some (.int p2), some (.int p3), some (.int x9), none, none]) (fun x9 => ?_) rfl
      refine s_iload (pc := 57) dX5_seek_57 rfl ?_
      refine s_ifge (pc := 59) 63 dX5_seek_59 rfl ?_ ?_
      · refine s_iload_n (pc := 63) 2 dX5_seek_63 rfl rfl ?_
        refine s_iconst (pc := 64) (-1) dX5_seek_64 kc_m1 ?_
        refine s_join M (fun s11 : Mem => s11) 84 (fun s11 : Mem => [some (.ref (gh (xG X) + a0)), some (.int p1), some (.int p2), some (.int p3), none, none, none]) (fun s11 : Mem => []) (fun s11 hs12 => ?_) (fun j10 hj13 => ?_)
        · show S0 X _ s11 84 [some (.ref (gh (xG X) + a0)), some (.int p1), some (.int p2), some (.int p3), none, none, none] [] _
          have o14 := hs12.ok o1
          refine s_iconst (pc := 84) 0 dX5_seek_84 kc_0 ?_
          refine s_istore (pc := 85) dX5_seek_85 (nlt rfl) rfl (L' := [some (.ref (gh (xG X) + a0)), some (.int p1), some (.int p2), some (.int p3), none, some (.int 0), none]) rfl ?_
          refine s_drop (L' := [some (.ref (gh (xG X) + a0)), some (.int p1), some (.int p2), some (.int p3), none, some (.int 0), none]) ?_ (And.intro rfl (And.intro rfl (And.intro rfl (And.intro rfl (And.intro rfl trivial)))))
          refine s_loop1 s11 (fun s15 : Mem × Int32 => s15.1) (fun s15 : Mem × Int32 => [some (.ref (gh (xG X) + a0)), some (.int p1), some (.int p2), some (.int p3), none, some (.int s15.2), none]) (fun x22 : Mem => x22) 157 (fun x22 : Mem => [none, none, none, none, none, none, none]) (fun x22 hx23 => ?_) (fun T17 R19 hT18 hR20 s15 hs16 => ?_) (s11, 0) Le.rf
          · show S0 X _ x22 157 [none, none, none, none, none, none, none] [] _
            exact s_vret rfl dX5_seek_157
          · show S0 X _ s15.1 87 [some (.ref (gh (xG X) + a0)), some (.int p1), some (.int p2), some (.int p3), none, some (.int s15.2), none] [] _
            have o21 := hs16.ok o14
            refine s_iload (pc := 87) dX5_seek_87 rfl ?_
            refine s_aload_n (pc := 89) 0 dX5_seek_89 rfl rfl ?_
            refine s_geti (pc := 90) F_5 7 rfl o21 dX5_seek_90 kf_X5_40 ?_
            refine s_icge (pc := 93) 157 dX5_seek_93 rfl ?_ ?_
            · exact s_drop (hR20 s15.1 hs16) trivial
            · refine s_aload_n (pc := 96) 0 dX5_seek_96 rfl rfl ?_
              refine s_geto (pc := 97) F_5 1 rfl o21 dX5_seek_97 kf_X5_15 ?_
              refine s_rvB (fun r24 => ?_)
              refine s_iload (pc := 100) dX5_seek_100 rfl ?_
              refine s_bipush (pc := 102) 6 dX5_seek_102 kb_6 ?_
              refine s_imul (pc := 104) dX5_seek_104 ?_
              refine s_iload_n (pc := 105) 1 dX5_seek_105 rfl rfl ?_
              refine s_iadd (pc := 106) dX5_seek_106 ?_
              refine s_grd (fun o25 => ?_)
              refine s_grd (fun i26 => ?_)
              refine s_iald (pc := 107) o25 i26 dX5_seek_107 ?_
              refine s_istore (pc := 108) dX5_seek_108 (nlt rfl) rfl (L' := [some (.ref (gh (xG X) + a0)), some (.int p1), some (.int p2), some (.int p3), none, some (.int s15.2), some (.int (mI s15.1 r24 ((s15.2 * 6) + p1).toNatClampNeg))]) rfl ?_
              refine s_bv (fun x27 : Int32 => [some (.ref (gh (xG X) + a0)), some (.int p1), some (.int p2), some (.int p3), none, some (.int s15.2), some (.int x27)]) (fun x27 => ?_) rfl
              refine s_iload_n (pc := 110) 3 dX5_seek_110 rfl rfl ?_
              refine s_iload (pc := 111) dX5_seek_111 rfl ?_
              refine s_iadd (pc := 113) dX5_seek_113 ?_
              refine s_aload_n (pc := 114) 0 dX5_seek_114 rfl rfl ?_
              refine s_geti (pc := 115) F_5 10 rfl o21 dX5_seek_115 kf_X5_57 ?_
              refine s_join s15.1 (fun s29 : Mem => s29) 151 (fun s29 : Mem => [some (.ref (gh (xG X) + a0)), some (.int p1), some (.int p2), some (.int p3), none, some (.int s15.2), none]) (fun s29 : Mem => []) (fun s29 hs30 => ?_) (fun j28 hj31 => ?_)
              · show S0 X _ s29 151 [some (.ref (gh (xG X) + a0)), some (.int p1), some (.int p2), some (.int p3), none, some (.int s15.2), none] [] _
                have o32 := hs30.ok o21
                refine s_iinc (pc := 151) dX5_seek_151 rfl (v := s15.2 + 1) (congrArg (fun z : Int32 => s15.2 + z) kc_1) (nlt rfl) rfl (L' := [some (.ref (gh (xG X) + a0)), some (.int p1), some (.int p2), some (.int p3), none, some (.int (s15.2 + 1)), none]) rfl ?_
                refine s_bv (fun x33 : Int32 => [some (.ref (gh (xG X) + a0)), some (.int p1), some (.int p2), some (.int p3), none, some (.int x33), none]) (fun x33 => ?_) rfl
                refine s_goto (pc := 154) 87 dX5_seek_154 rfl ?_
                exact s_drop (hT18 (s29, x33) (hs16.tr hs30)) (And.intro rfl (And.intro rfl (And.intro rfl (And.intro rfl (And.intro rfl trivial)))))
              · refine s_icgt (pc := 118) 151 dX5_seek_118 rfl ?_ ?_
                · exact s_drop (hj31 s15.1 Le.rf) (And.intro rfl (And.intro rfl (And.intro rfl (And.intro rfl (And.intro rfl trivial)))))
                · refine s_aload_n (pc := 121) 0 dX5_seek_121 rfl rfl ?_
                  refine s_iload (pc := 122) dX5_seek_122 rfl ?_
                  refine s_iload_n (pc := 124) 1 dX5_seek_124 rfl rfl ?_
                  refine s_bind (fun q34 hq35 => ?_)
                  have hC36 := t_X5_comesOf (l := xl X) (G := xG X) hq35
                  refine s_callV (pc := 125) (As := [.int s15.2, .int p1]) (st := []) (nlt rfl) (q := (RX5, TX5, 12)) rfl rfl o21 cl_X5_comesOf wi_X5_comesOf wl_X5_comesOf km_X5_84 rfl rfl (Nat.le_trans (nle rfl : _ ≤ 2) (Nat.le_add_right 2 _)) (nle rfl) (nle rfl) dX5_seek_125 hC36 ?_
                  show S0 X _ s15.1 128 [some (.ref (gh (xG X) + a0)), some (.int p1), some (.int p2), some (.int p3), none, some (.int s15.2), some (.int x27)] [.int q34] _
                  refine s_ifne (pc := 128) 151 dX5_seek_128 rfl ?_ ?_
                  · exact s_drop (hj31 s15.1 Le.rf) (And.intro rfl (And.intro rfl (And.intro rfl (And.intro rfl (And.intro rfl trivial)))))
                  · refine s_aload_n (pc := 131) 0 dX5_seek_131 rfl rfl ?_
                    refine s_geto (pc := 132) F_5 2 rfl o21 dX5_seek_132 kf_X5_18 ?_
                    refine s_rvB (fun r37 => ?_)
                    refine s_iload_n (pc := 135) 1 dX5_seek_135 rfl rfl ?_
                    refine s_iload (pc := 136) dX5_seek_136 rfl ?_
                    refine s_grd (fun o38 => ?_)
                    refine s_grd (fun i39 => ?_)
                    refine s_iast (pc := 138) o38 i39 dX5_seek_138 (fun M40 hM41 => ?_)
                    have h42 := le_wI hM41
                    have o43 := h42.ok o21
                    refine s_aload_n (pc := 139) 0 dX5_seek_139 rfl rfl ?_
                    refine s_iload_n (pc := 140) 1 dX5_seek_140 rfl rfl ?_
                    refine s_iconst (pc := 141) 1 dX5_seek_141 kc_1 ?_
                    refine s_iadd (pc := 142) dX5_seek_142 ?_
                    refine s_iload_n (pc := 143) 2 dX5_seek_143 rfl rfl ?_
                    refine s_iload_n (pc := 144) 3 dX5_seek_144 rfl rfl ?_
                    refine s_iload (pc := 145) dX5_seek_145 rfl ?_
                    refine s_iadd (pc := 147) dX5_seek_147 ?_
                    refine s_bind (fun q44 hq45 => ?_)
                    have hC46 := hg_X5_seek X rfl rfl M40 a0 (p1 + 1) p2 (p3 + x27) q44 hq45
                    refine s_callV (pc := 148) (As := [.int (p1 + 1), .int p2, .int (p3 + x27)]) (st := []) (nlt rfl) (q := (RX5, TX5, 12)) rfl rfl o43 cl_X5_seek wi_X5_seek wl_X5_seek km_X5_60 rfl rfl (Nat.le_refl _) (nle rfl) (nle rfl) dX5_seek_148 hC46 ?_
                    have h47 := hC46.1 X
                    have o48 := h47.ok o43
                    show S0 X _ q44 151 [some (.ref (gh (xG X) + a0)), some (.int p1), some (.int p2), some (.int p3), none, some (.int s15.2), some (.int x27)] [] _
                    exact s_drop (hj31 q44 (h42.tr h47)) (And.intro rfl (And.intro rfl (And.intro rfl (And.intro rfl (And.intro rfl trivial)))))
        · refine s_icne (pc := 65) 84 dX5_seek_65 rfl ?_ ?_
          · exact s_drop (hj13 M Le.rf) (And.intro rfl (And.intro rfl (And.intro rfl (And.intro rfl trivial))))
          · refine s_aload_n (pc := 68) 0 dX5_seek_68 rfl rfl ?_
            refine s_geto (pc := 69) F_5 2 rfl o1 dX5_seek_69 kf_X5_18 ?_
            refine s_rvB (fun r49 => ?_)
            refine s_iload_n (pc := 72) 1 dX5_seek_72 rfl rfl ?_
            refine s_iconst (pc := 73) (-1) dX5_seek_73 kc_m1 ?_
            refine s_grd (fun o50 => ?_)
            refine s_grd (fun i51 => ?_)
            refine s_iast (pc := 74) o50 i51 dX5_seek_74 (fun M52 hM53 => ?_)
            have h54 := le_wI hM53
            have o55 := h54.ok o1
            refine s_aload_n (pc := 75) 0 dX5_seek_75 rfl rfl ?_
            refine s_iload_n (pc := 76) 1 dX5_seek_76 rfl rfl ?_
            refine s_iconst (pc := 77) 1 dX5_seek_77 kc_1 ?_
            refine s_iadd (pc := 78) dX5_seek_78 ?_
            refine s_iload_n (pc := 79) 1 dX5_seek_79 rfl rfl ?_
            refine s_iload_n (pc := 80) 3 dX5_seek_80 rfl rfl ?_
            refine s_bind (fun q56 hq57 => ?_)
            have hC58 := hg_X5_seek X rfl rfl M52 a0 (p1 + 1) p1 p3 q56 hq57
            refine s_callV (pc := 81) (As := [.int (p1 + 1), .int p1, .int p3]) (st := []) (nlt rfl) (q := (RX5, TX5, 12)) rfl rfl o55 cl_X5_seek wi_X5_seek wl_X5_seek km_X5_60 rfl rfl (Nat.le_refl _) (nle rfl) (nle rfl) dX5_seek_81 hC58 ?_
            have h59 := hC58.1 X
            have o60 := h59.ok o55
            show S0 X _ q56 84 [some (.ref (gh (xG X) + a0)), some (.int p1), some (.int p2), some (.int p3), some (.int x9), none, none] [] _
            exact s_drop (hj13 q56 (h54.tr h59)) (And.intro rfl (And.intro rfl (And.intro rfl (And.intro rfl trivial))))
      · exact s_vret rfl dX5_seek_62
    · refine s_icne (pc := 41) 53 dX5_seek_41 rfl ?_ ?_
      · refine s_iconst (pc := 53) 0 dX5_seek_53 kc_0 ?_
        exact s_drop (hj8 0 Le.rf) (And.intro rfl (And.intro rfl (And.intro rfl (And.intro rfl trivial))))
      · refine s_aload_n (pc := 44) 0 dX5_seek_44 rfl rfl ?_
        refine s_geto (pc := 45) F_5 6 rfl o1 dX5_seek_45 kf_X5_30 ?_
        refine s_rvB (fun r61 => ?_)
        refine s_iload_n (pc := 48) 1 dX5_seek_48 rfl rfl ?_
        refine s_grd (fun o62 => ?_)
        refine s_grd (fun i63 => ?_)
        refine s_iald (pc := 49) o62 i63 dX5_seek_49 ?_
        refine s_goto (pc := 50) 54 dX5_seek_50 rfl ?_
        exact s_drop (hj8 (mI M r61 p1.toNatClampNeg) Le.rf) (And.intro rfl (And.intro rfl (And.intro rfl (And.intro rfl trivial))))
  · refine s_iload_n (pc := 8) 2 dX5_seek_8 rfl rfl ?_
    refine s_iconst (pc := 9) (-1) dX5_seek_9 kc_m1 ?_
    refine s_iceq (pc := 10) 25 dX5_seek_10 rfl ?_ ?_
    · exact s_vret rfl dX5_seek_25
    · refine s_iload_n (pc := 13) 3 dX5_seek_13 rfl rfl ?_
      refine s_aload_n (pc := 14) 0 dX5_seek_14 rfl rfl ?_
      refine s_geti (pc := 15) F_5 10 rfl o1 dX5_seek_15 kf_X5_57 ?_
      refine s_icne (pc := 18) 25 dX5_seek_18 rfl ?_ ?_
      · exact s_vret rfl dX5_seek_25
      · refine s_aload_n (pc := 21) 0 dX5_seek_21 rfl rfl ?_
        refine s_bind (fun q64 hq65 => ?_)
        have hC66 := t_X5_noteRow (l := xl X) (G := xG X) hq65
        refine s_callV (pc := 22) (As := []) (st := []) (nlt rfl) (q := (RX5, TX5, 12)) rfl rfl o1 cl_X5_noteRow wi_X5_noteRow wl_X5_noteRow km_X5_81 rfl rfl (Nat.le_trans (nle rfl : _ ≤ 2) (Nat.le_add_right 2 _)) (nle rfl) (nle rfl) dX5_seek_22 hC66 ?_
        have h67 := hC66.1 X
        have o68 := h67.ok o1
        show S0 X _ q64 25 [some (.ref (gh (xG X) + a0)), some (.int p1), some (.int p2), some (.int p3), none, none, none] [] _
        exact s_vret rfl dX5_seek_25
noncomputable def G_X5_seek : Nat → (Mem → Nat → Int32 → Int32 → Int32 → Option Mem)
  | 0 => (fun _ _ _ _ _ => none)
  | d + 1 => b_X5_seek ((G_X5_seek d))
noncomputable def f_X5_seek (d : Nat) : Mem → Nat → Int32 → Int32 → Int32 → Option Mem := (G_X5_seek d)
set_option maxRecDepth 100000 in
theorem tg_X5_seek {l : Launch} {G : Gh} : ∀ d : Nat, (∀ (M : Mem) (a0 : Nat) (p1 : Int32) (p2 : Int32) (p3 : Int32) (q : Mem), f_X5_seek d M a0 p1 p2 p3 = some q → Ctr l G yX5_seek (Y_X5_seek d) M [.ref (gh G + a0), .int p1, .int p2, .int p3] q (none)) := by
  intro d
  induction d with
  | zero => (intros; rename_i h; cases h)
  | succ d ih =>
    have h0 := ih
    · intro M a0 p1 p2 p3 q h
      exact t_X5_seek (fun X hG hl => by subst hG; subst hl; exact h0) h
set_option maxRecDepth 100000 in
theorem tf_X5_seek {l : Launch} {G : Gh} {M : Mem} {a0 : Nat} {p1 : Int32} {p2 : Int32} {p3 : Int32} {q : Mem} (h : f_X5_seek 100 M a0 p1 p2 p3 = some q) : Ctr l G yX5_seek (Y_X5_seek 100) M [.ref (gh G + a0), .int p1, .int p2, .int p3] q (none) := (tg_X5_seek 100) _ _ _ _ _ _ h
