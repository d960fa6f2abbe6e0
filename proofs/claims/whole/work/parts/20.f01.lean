set_option maxRecDepth 100000 in
set_option maxHeartbeats 8000000 in
noncomputable def f_X10_touchRules (M : Mem) (a0 : Nat) : Option Mem :=
  grd (okO M 10 a0) (bv (wI M a0 13 ((mI M a0 13) + 1)) (fun M2 => bv (wI M2 a0 14 ((mI M2 a0 14) + 1)) (fun M6 => some M6)))
abbrev Y_X10_touchRules : Sta := (RX10, "touchRules", cX10_touchRules, 1, none, 1)
set_option maxRecDepth 100000 in
set_option maxHeartbeats 8000000 in
theorem t_X10_touchRules {l : Launch} {G : Gh} {M : Mem} {a0 : Nat} {q : Mem} (h : f_X10_touchRules M a0 = some q) : Ctr l G yX10_touchRules Y_X10_touchRules M [.ref (gh G + a0)] q (none) := by
  refine Ctr.of (Y := Y_X10_touchRules) (L := [some (.ref (gh G + a0))]) (t := Option.bind (f_X10_touchRules M a0) (fun q => some (q, (none : Option Value)))) (by decide) rfl rfl (nle rfl) (Lof_in 0 _ rfl) (fun X hG hl => ?_) (by rw [h]; rfl)
  subst hG
  subst hl
  unfold f_X10_touchRules
  refine s_aload_n (pc := 0) 0 dX10_touchRules_0 rfl rfl ?_
  refine s_dup (pc := 1) dX10_touchRules_1 rfl ?_
  refine s_grd (fun o1 => ?_)
  refine s_geti (pc := 2) F_10 13 rfl o1 dX10_touchRules_2 kf_X10_43 ?_
  refine s_iconst (pc := 5) 1 dX10_touchRules_5 kc_1 ?_
  refine s_iadd (pc := 6) dX10_touchRules_6 ?_
  refine s_puti (pc := 7) F_10 13 rfl o1 rfl rfl rfl dX10_touchRules_7 kf_X10_43 (fun M2 hM3 => ?_)
  have h4 := le_wI hM3
  have o5 := h4.ok o1
  refine s_aload_n (pc := 10) 0 dX10_touchRules_10 rfl rfl ?_
  refine s_dup (pc := 11) dX10_touchRules_11 rfl ?_
  refine s_geti (pc := 12) F_10 14 rfl o5 dX10_touchRules_12 kf_X10_46 ?_
  refine s_iconst (pc := 15) 1 dX10_touchRules_15 kc_1 ?_
  refine s_iadd (pc := 16) dX10_touchRules_16 ?_
  refine s_puti (pc := 17) F_10 14 rfl o5 rfl rfl rfl dX10_touchRules_17 kf_X10_46 (fun M6 hM7 => ?_)
  have h8 := le_wI hM7
  have o9 := h8.ok o5
  exact s_vret rfl dX10_touchRules_20
set_option maxRecDepth 100000 in
set_option maxHeartbeats 8000000 in
noncomputable def f_X10_turnTo (M : Mem) (a0 : Nat) (p1 : Int32) : Option Mem :=
  grd (okO M 10 a0) (bv (wI M a0 11 p1) (fun M2 => bv (wI M2 a0 14 ((mI M2 a0 14) + 1)) (fun M6 => some M6)))
abbrev Y_X10_turnTo : Sta := (RX10, "turnTo", cX10_turnTo, 2, none, 1)
set_option maxRecDepth 100000 in
set_option maxHeartbeats 8000000 in
theorem t_X10_turnTo {l : Launch} {G : Gh} {M : Mem} {a0 : Nat} {p1 : Int32} {q : Mem} (h : f_X10_turnTo M a0 p1 = some q) : Ctr l G yX10_turnTo Y_X10_turnTo M [.ref (gh G + a0), .int p1] q (none) := by
  refine Ctr.of (Y := Y_X10_turnTo) (L := [some (.ref (gh G + a0)), some (.int p1)]) (t := Option.bind (f_X10_turnTo M a0 p1) (fun q => some (q, (none : Option Value)))) (by decide) rfl rfl (nle rfl) (Lof_in 0 _ rfl) (fun X hG hl => ?_) (by rw [h]; rfl)
  subst hG
  subst hl
  unfold f_X10_turnTo
  refine s_aload_n (pc := 0) 0 dX10_turnTo_0 rfl rfl ?_
  refine s_iload_n (pc := 1) 1 dX10_turnTo_1 rfl rfl ?_
  refine s_grd (fun o1 => ?_)
  refine s_puti (pc := 2) F_10 11 rfl o1 rfl rfl rfl dX10_turnTo_2 kf_X10_61 (fun M2 hM3 => ?_)
  have h4 := le_wI hM3
  have o5 := h4.ok o1
  refine s_aload_n (pc := 5) 0 dX10_turnTo_5 rfl rfl ?_
  refine s_dup (pc := 6) dX10_turnTo_6 rfl ?_
  refine s_geti (pc := 7) F_10 14 rfl o5 dX10_turnTo_7 kf_X10_46 ?_
  refine s_iconst (pc := 10) 1 dX10_turnTo_10 kc_1 ?_
  refine s_iadd (pc := 11) dX10_turnTo_11 ?_
  refine s_puti (pc := 12) F_10 14 rfl o5 rfl rfl rfl dX10_turnTo_12 kf_X10_46 (fun M6 hM7 => ?_)
  have h8 := le_wI hM7
  have o9 := h8.ok o5
  exact s_vret rfl dX10_turnTo_15
set_option maxRecDepth 100000 in
set_option maxHeartbeats 8000000 in
noncomputable def f_X10_yearBehind (M : Mem) (a0 : Nat) (p1 : Int32) : Option Int32 :=
  Option.bind (loopO (σ := Int32 × Int32) (ρ := Int32) (fun s1 => grd (okO M 10 a0) (if (mI M a0 8) ≤ s1.2 then (some (.inr s1.1)) else (Option.bind (mR M a0 4) (fun r10 => grd (okO M 14 r10) (grd (vp_in s1.2 (mL M r10)) (bv (fun (s14 : Int32) => bv (s1.2 + 1 : Int32) (fun x17 => some (.inl (s14, x17)))) (fun j13 => if (mI M r10 s1.2.toNatClampNeg) ≤ p1 then (j13 s1.1) else (bv (fun (s19 : Unit) => Option.bind (mR M a0 4) (fun r22 => grd (okO M 14 r22) (grd (vp_in s1.2 (mL M r22)) (bv (mI M r22 s1.2.toNatClampNeg : Int32) (fun x25 => j13 x25))))) (fun j18 => if s1.1 = (-1) then (j18 ()) else (Option.bind (mR M a0 4) (fun r26 => grd (okO M 14 r26) (grd (vp_in s1.2 (mL M r26)) (if s1.1 ≤ (mI M r26 s1.2.toNatClampNeg) then (j13 s1.1) else (j18 ())))))))))))))) ((-1), 0)) (fun (x7 : Int32) => some x7)
abbrev Y_X10_yearBehind : Sta := (RX10, "yearBehind", cX10_yearBehind, 4, (some .int), 1)
set_option maxRecDepth 100000 in
set_option maxHeartbeats 8000000 in
theorem t_X10_yearBehind {l : Launch} {G : Gh} {M : Mem} {a0 : Nat} {p1 : Int32} {q : Int32} (h : f_X10_yearBehind M a0 p1 = some q) : Ctr l G yX10_yearBehind Y_X10_yearBehind M [.ref (gh G + a0), .int p1] M (some (.int q)) := by
  refine Ctr.of (Y := Y_X10_yearBehind) (L := [some (.ref (gh G + a0)), some (.int p1), none, none]) (t := Option.bind (f_X10_yearBehind M a0 p1) (fun q => some (M, some (.int q)))) (by decide) rfl rfl (nle rfl) (Lof_in 2 _ rfl) (fun X hG hl => ?_) (by rw [h]; rfl)
  subst hG
  subst hl
  unfold f_X10_yearBehind
  refine s_iconst (pc := 0) (-1) dX10_yearBehind_0 kc_m1 ?_
  refine s_istore_n (pc := 1) 2 dX10_yearBehind_1 rfl (nlt rfl) rfl (L' := [some (.ref (gh (xG X) + a0)), some (.int p1), some (.int (-1)), none]) rfl ?_
  refine s_iconst (pc := 2) 0 dX10_yearBehind_2 kc_0 ?_
  refine s_istore_n (pc := 3) 3 dX10_yearBehind_3 rfl (nlt rfl) rfl (L' := [some (.ref (gh (xG X) + a0)), some (.int p1), some (.int (-1)), some (.int 0)]) rfl ?_
  refine s_drop (L' := [some (.ref (gh (xG X) + a0)), some (.int p1), some (.int (-1)), some (.int 0)]) ?_ (And.intro rfl (And.intro rfl (And.intro rfl (And.intro rfl trivial))))
  refine s_loop1 M (fun s1 : Int32 × Int32 => M) (fun s1 : Int32 × Int32 => [some (.ref (gh (xG X) + a0)), some (.int p1), some (.int s1.1), some (.int s1.2)]) (fun x7 : Int32 => M) 50 (fun x7 : Int32 => [none, none, some (.int x7), none]) (fun x7 hx8 => ?_) (fun T3 R5 hT4 hR6 s1 hs2 => ?_) ((-1), 0) Le.rf
  · show S0 X _ M 50 [none, none, some (.int x7), none] [] _
    refine s_iload_n (pc := 50) 2 dX10_yearBehind_50 rfl rfl ?_
    exact s_iret rfl dX10_yearBehind_51
  · show S0 X _ M 4 [some (.ref (gh (xG X) + a0)), some (.int p1), some (.int s1.1), some (.int s1.2)] [] _
    refine s_iload_n (pc := 4) 3 dX10_yearBehind_4 rfl rfl ?_
    refine s_aload_n (pc := 5) 0 dX10_yearBehind_5 rfl rfl ?_
    refine s_grd (fun o9 => ?_)
    refine s_geti (pc := 6) F_10 8 rfl o9 dX10_yearBehind_6 kf_X10_55 ?_
    refine s_icge (pc := 9) 50 dX10_yearBehind_9 rfl ?_ ?_
    · exact s_drop (hR6 s1.1 Le.rf) (And.intro rfl trivial)
    · refine s_aload_n (pc := 12) 0 dX10_yearBehind_12 rfl rfl ?_
      refine s_geto (pc := 13) F_10 4 rfl o9 dX10_yearBehind_13 kf_X10_24 ?_
      refine s_rvB (fun r10 => ?_)
      refine s_iload_n (pc := 16) 3 dX10_yearBehind_16 rfl rfl ?_
      refine s_grd (fun o11 => ?_)
      refine s_grd (fun i12 => ?_)
      refine s_iald (pc := 17) o11 i12 dX10_yearBehind_17 ?_
      refine s_iload_n (pc := 18) 1 dX10_yearBehind_18 rfl rfl ?_
      refine s_join M (fun s14 : Int32 => M) 44 (fun s14 : Int32 => [some (.ref (gh (xG X) + a0)), some (.int p1), some (.int s14), some (.int s1.2)]) (fun s14 : Int32 => []) (fun s14 hs15 => ?_) (fun j13 hj16 => ?_)
      · show S0 X _ M 44 [some (.ref (gh (xG X) + a0)), some (.int p1), some (.int s14), some (.int s1.2)] [] _
        refine s_iinc (pc := 44) dX10_yearBehind_44 rfl (v := s1.2 + 1) (congrArg (fun z : Int32 => s1.2 + z) kc_1) (nlt rfl) rfl (L' := [some (.ref (gh (xG X) + a0)), some (.int p1), some (.int s14), some (.int (s1.2 + 1))]) rfl ?_
        refine s_bv (fun x17 : Int32 => [some (.ref (gh (xG X) + a0)), some (.int p1), some (.int s14), some (.int x17)]) (fun x17 => ?_) rfl
        refine s_goto (pc := 47) 4 dX10_yearBehind_47 rfl ?_
        exact s_drop (hT4 (s14, x17) Le.rf) (And.intro rfl (And.intro rfl (And.intro rfl (And.intro rfl trivial))))
      · refine s_icle (pc := 19) 44 dX10_yearBehind_19 rfl ?_ ?_
        · exact s_drop (hj16 s1.1 Le.rf) (And.intro rfl (And.intro rfl (And.intro rfl (And.intro rfl trivial))))
        · refine s_iload_n (pc := 22) 2 dX10_yearBehind_22 rfl rfl ?_
          refine s_iconst (pc := 23) (-1) dX10_yearBehind_23 kc_m1 ?_
          refine s_join M (fun s19 : Unit => M) 37 (fun s19 : Unit => [some (.ref (gh (xG X) + a0)), some (.int p1), none, some (.int s1.2)]) (fun s19 : Unit => []) (fun s19 hs20 => ?_) (fun j18 hj21 => ?_)
          · show S0 X _ M 37 [some (.ref (gh (xG X) + a0)), some (.int p1), none, some (.int s1.2)] [] _
            refine s_aload_n (pc := 37) 0 dX10_yearBehind_37 rfl rfl ?_
            refine s_geto (pc := 38) F_10 4 rfl o9 dX10_yearBehind_38 kf_X10_24 ?_
            refine s_rvB (fun r22 => ?_)
            refine s_iload_n (pc := 41) 3 dX10_yearBehind_41 rfl rfl ?_
            refine s_grd (fun o23 => ?_)
            refine s_grd (fun i24 => ?_)
            refine s_iald (pc := 42) o23 i24 dX10_yearBehind_42 ?_
            refine s_istore_n (pc := 43) 2 dX10_yearBehind_43 rfl (nlt rfl) rfl (L' := [some (.ref (gh (xG X) + a0)), some (.int p1), some (.int (mI M r22 s1.2.toNatClampNeg)), some (.int s1.2)]) rfl ?_
            refine s_bv (fun x25 : Int32 => [some (.ref (gh (xG X) + a0)), some (.int p1), some (.int x25), some (.int s1.2)]) (fun x25 => ?_) rfl
            exact s_drop (hj16 x25 Le.rf) (And.intro rfl (And.intro rfl (And.intro rfl (And.intro rfl trivial))))
          · refine s_iceq (pc := 24) 37 dX10_yearBehind_24 rfl ?_ ?_
            · exact s_drop (hj21 () Le.rf) (And.intro rfl (And.intro rfl (And.intro rfl trivial)))
            · refine s_aload_n (pc := 27) 0 dX10_yearBehind_27 rfl rfl ?_
              refine s_geto (pc := 28) F_10 4 rfl o9 dX10_yearBehind_28 kf_X10_24 ?_
              refine s_rvB (fun r26 => ?_)
              refine s_iload_n (pc := 31) 3 dX10_yearBehind_31 rfl rfl ?_
              refine s_grd (fun o27 => ?_)
              refine s_grd (fun i28 => ?_)
              refine s_iald (pc := 32) o27 i28 dX10_yearBehind_32 ?_
              refine s_iload_n (pc := 33) 2 dX10_yearBehind_33 rfl rfl ?_
              refine s_icge (pc := 34) 44 dX10_yearBehind_34 rfl ?_ ?_
              · exact s_drop (hj16 s1.1 Le.rf) (And.intro rfl (And.intro rfl (And.intro rfl (And.intro rfl trivial))))
              · exact s_drop (hj21 () Le.rf) (And.intro rfl (And.intro rfl (And.intro rfl trivial)))
set_option maxRecDepth 100000 in
set_option maxHeartbeats 8000000 in
noncomputable def f_X11_accept (M : Mem) (a0 : Nat) (p1 : Int32) : Option (Mem × Int32) :=
  grd (okO M 11 a0) (bv (wI M a0 12 0) (fun M2 => some (M2, p1)))
abbrev Y_X11_accept : Sta := (RX11, "accept", cX11_accept, 2, (some .int), 1)
set_option maxRecDepth 100000 in
set_option maxHeartbeats 8000000 in
theorem t_X11_accept {l : Launch} {G : Gh} {M : Mem} {a0 : Nat} {p1 : Int32} {q : Mem × Int32} (h : f_X11_accept M a0 p1 = some q) : Ctr l G yX11_accept Y_X11_accept M [.ref (gh G + a0), .int p1] q.1 (some (.int q.2)) := by
  refine Ctr.of (Y := Y_X11_accept) (L := [some (.ref (gh G + a0)), some (.int p1)]) (t := Option.bind (f_X11_accept M a0 p1) (fun q => some (q.1, some (.int q.2)))) (by decide) rfl rfl (nle rfl) (Lof_in 0 _ rfl) (fun X hG hl => ?_) (by rw [h]; rfl)
  subst hG
  subst hl
  unfold f_X11_accept
  refine s_aload_n (pc := 0) 0 dX11_accept_0 rfl rfl ?_
  refine s_iconst (pc := 1) 0 dX11_accept_1 kc_0 ?_
  refine s_grd (fun o1 => ?_)
  refine s_puti (pc := 2) F_11 12 rfl o1 rfl rfl rfl dX11_accept_2 kf_X11_365 (fun M2 hM3 => ?_)
  have h4 := le_wI hM3
  have o5 := h4.ok o1
  refine s_iload_n (pc := 5) 1 dX11_accept_5 rfl rfl ?_
  exact s_iret rfl dX11_accept_6
set_option maxRecDepth 100000 in
set_option maxHeartbeats 8000000 in
noncomputable def f_X11_burnt (M : Mem) (a0 : Nat) : Option Int32 :=
  grd (okO M 11 a0) (some (mI M a0 13))
abbrev Y_X11_burnt : Sta := (RX11, "burnt", cX11_burnt, 1, (some .int), 1)
set_option maxRecDepth 100000 in
set_option maxHeartbeats 8000000 in
theorem t_X11_burnt {l : Launch} {G : Gh} {M : Mem} {a0 : Nat} {q : Int32} (h : f_X11_burnt M a0 = some q) : Ctr l G yX11_burnt Y_X11_burnt M [.ref (gh G + a0)] M (some (.int q)) := by
  refine Ctr.of (Y := Y_X11_burnt) (L := [some (.ref (gh G + a0))]) (t := Option.bind (f_X11_burnt M a0) (fun q => some (M, some (.int q)))) (by decide) rfl rfl (nle rfl) (Lof_in 0 _ rfl) (fun X hG hl => ?_) (by rw [h]; rfl)
  subst hG
  subst hl
  unfold f_X11_burnt
  refine s_aload_n (pc := 0) 0 dX11_burnt_0 rfl rfl ?_
  refine s_grd (fun o1 => ?_)
  refine s_geti (pc := 1) F_11 13 rfl o1 dX11_burnt_1 kf_X11_186 ?_
  exact s_iret rfl dX11_burnt_4
set_option maxRecDepth 100000 in
set_option maxHeartbeats 8000000 in
noncomputable def f_X11_count (M : Mem) (a0 : Nat) (p1 : Int32) : Option Int32 :=
  bv (fun (s2 : Unit) => swO p1 (swC 0 [(80, grd (okO M 11 a0) (Option.bind (mR M a0 0) (fun r6 => grd (okO M 10 r6) (some (mI M r6 8))))), (88, grd (okO M 11 a0) (Option.bind (mR M a0 0) (fun r9 => grd (okO M 10 r9) (some (mI M r9 9))))), (96, grd (okO M 11 a0) (Option.bind (mR M a0 2) (fun r12 => grd (okO M 7 r12) (some (mI M r12 4))))), (128, some (-1)), (128, some (-1)), (128, some (-1)), (128, some (-1)), (128, some (-1)), (104, grd (okO M 11 a0) (Option.bind (mR M a0 0) (fun r15 => grd (okO M 10 r15) (some (mI M r15 10))))), (112, grd (okO M 11 a0) (Option.bind (mR M a0 0) (fun r18 => grd (okO M 10 r18) (some (mI M r18 11))))), (120, grd (okO M 11 a0) (Option.bind (mR M a0 0) (fun r21 => grd (okO M 10 r21) (some (mI M r21 12)))))]) (some (-1))) (fun j1 => if p1 < 3 then (j1 ()) else (if 7 < p1 then (j1 ()) else (grd (okO M 11 a0) (Option.bind (mR M a0 9) (fun r24 => grd (okO M 14 r24) (grd (vp_in (p1 - 3) (mL M r24)) (some (mI M r24 (p1 - 3).toNatClampNeg))))))))
abbrev Y_X11_count : Sta := (RX11, "count", cX11_count, 2, (some .int), 1)
set_option maxRecDepth 100000 in
set_option maxHeartbeats 8000000 in
theorem t_X11_count {l : Launch} {G : Gh} {M : Mem} {a0 : Nat} {p1 : Int32} {q : Int32} (h : f_X11_count M a0 p1 = some q) : Ctr l G yX11_count Y_X11_count M [.ref (gh G + a0), .int p1] M (some (.int q)) := by
  refine Ctr.of (Y := Y_X11_count) (L := [some (.ref (gh G + a0)), some (.int p1)]) (t := Option.bind (f_X11_count M a0 p1) (fun q => some (M, some (.int q)))) (by decide) rfl rfl (nle rfl) (Lof_in 0 _ rfl) (fun X hG hl => ?_) (by rw [h]; rfl)
  subst hG
  subst hl
  unfold f_X11_count
  refine s_iload_n (pc := 0) 1 dX11_count_0 rfl rfl ?_
  refine s_iconst (pc := 1) 3 dX11_count_1 kc_3 ?_
  refine s_join M (fun s2 : Unit => M) 20 (fun s2 : Unit => [some (.ref (gh (xG X) + a0)), some (.int p1)]) (fun s2 : Unit => []) (fun s2 hs3 => ?_) (fun j1 hj4 => ?_)
  · show S0 X _ M 20 [some (.ref (gh (xG X) + a0)), some (.int p1)] [] _
    refine s_iload_n (pc := 20) 1 dX11_count_20 rfl rfl ?_
    refine s_tsw (pc := 21) _ 128 dX11_count_21 rfl rfl (And.intro (by decide) (And.intro (by simp only [List.length_cons, List.length_nil]; decide) rfl)) ?_ ?_
    · refine (And.intro ?_ (And.intro ?_ (And.intro ?_ (And.intro ?_ (And.intro ?_ (And.intro ?_ (And.intro ?_ (And.intro ?_ (And.intro ?_ (And.intro ?_ (And.intro ?_ trivial)))))))))))
      · dsimp only
        refine s_aload_n (pc := 80) 0 dX11_count_80 rfl rfl ?_
        refine s_grd (fun o5 => ?_)
        refine s_geto (pc := 81) F_11 0 rfl o5 dX11_count_81 kf_X11_10 ?_
        refine s_rvB (fun r6 => ?_)
        refine s_grd (fun o7 => ?_)
        refine s_getiN (pc := 84) F_10 8 rfl o7 dX11_count_84 (List.mem_of_getElem? (i := 9) rfl) ?_
        exact s_iret rfl dX11_count_87
      · dsimp only
        refine s_aload_n (pc := 88) 0 dX11_count_88 rfl rfl ?_
        refine s_grd (fun o8 => ?_)
        refine s_geto (pc := 89) F_11 0 rfl o8 dX11_count_89 kf_X11_10 ?_
        refine s_rvB (fun r9 => ?_)
        refine s_grd (fun o10 => ?_)
        refine s_getiN (pc := 92) F_10 9 rfl o10 dX11_count_92 (List.mem_of_getElem? (i := 10) rfl) ?_
        exact s_iret rfl dX11_count_95
      · dsimp only
        refine s_aload_n (pc := 96) 0 dX11_count_96 rfl rfl ?_
        refine s_grd (fun o11 => ?_)
        refine s_geto (pc := 97) F_11 2 rfl o11 dX11_count_97 kf_X11_23 ?_
        refine s_rvB (fun r12 => ?_)
        refine s_grd (fun o13 => ?_)
        refine s_geti (pc := 100) F_7 4 rfl o13 dX11_count_100 kf_X11_176 ?_
        exact s_iret rfl dX11_count_103
      · dsimp only
        refine s_iconst (pc := 128) (-1) dX11_count_128 kc_m1 ?_
        exact s_iret rfl dX11_count_129
      · dsimp only
        refine s_iconst (pc := 128) (-1) dX11_count_128 kc_m1 ?_
        exact s_iret rfl dX11_count_129
      · dsimp only
        refine s_iconst (pc := 128) (-1) dX11_count_128 kc_m1 ?_
        exact s_iret rfl dX11_count_129
      · dsimp only
        refine s_iconst (pc := 128) (-1) dX11_count_128 kc_m1 ?_
        exact s_iret rfl dX11_count_129
      · dsimp only
        refine s_iconst (pc := 128) (-1) dX11_count_128 kc_m1 ?_
        exact s_iret rfl dX11_count_129
      · dsimp only
        refine s_aload_n (pc := 104) 0 dX11_count_104 rfl rfl ?_
        refine s_grd (fun o14 => ?_)
        refine s_geto (pc := 105) F_11 0 rfl o14 dX11_count_105 kf_X11_10 ?_
        refine s_rvB (fun r15 => ?_)
        refine s_grd (fun o16 => ?_)
        refine s_getiN (pc := 108) F_10 10 rfl o16 dX11_count_108 (List.mem_of_getElem? (i := 11) rfl) ?_
        exact s_iret rfl dX11_count_111
      · dsimp only
        refine s_aload_n (pc := 112) 0 dX11_count_112 rfl rfl ?_
        refine s_grd (fun o17 => ?_)
        refine s_geto (pc := 113) F_11 0 rfl o17 dX11_count_113 kf_X11_10 ?_
        refine s_rvB (fun r18 => ?_)
        refine s_grd (fun o19 => ?_)
        refine s_getiN (pc := 116) F_10 11 rfl o19 dX11_count_116 (List.mem_of_getElem? (i := 14) rfl) ?_
        exact s_iret rfl dX11_count_119
      · dsimp only
        refine s_aload_n (pc := 120) 0 dX11_count_120 rfl rfl ?_
        refine s_grd (fun o20 => ?_)
        refine s_geto (pc := 121) F_11 0 rfl o20 dX11_count_121 kf_X11_10 ?_
        refine s_rvB (fun r21 => ?_)
        refine s_grd (fun o22 => ?_)
        refine s_getiN (pc := 124) F_10 12 rfl o22 dX11_count_124 (List.mem_of_getElem? (i := 16) rfl) ?_
        exact s_iret rfl dX11_count_127
    · refine s_iconst (pc := 128) (-1) dX11_count_128 kc_m1 ?_
      exact s_iret rfl dX11_count_129
  · refine s_iclt (pc := 2) 20 dX11_count_2 rfl ?_ ?_
    · exact s_drop (hj4 () Le.rf) (And.intro rfl (And.intro rfl trivial))
    · refine s_iload_n (pc := 5) 1 dX11_count_5 rfl rfl ?_
      refine s_bipush (pc := 6) 7 dX11_count_6 kb_7 ?_
      refine s_icgt (pc := 8) 20 dX11_count_8 rfl ?_ ?_
      · exact s_drop (hj4 () Le.rf) (And.intro rfl (And.intro rfl trivial))
      · refine s_aload_n (pc := 11) 0 dX11_count_11 rfl rfl ?_
        refine s_grd (fun o23 => ?_)
        refine s_geto (pc := 12) F_11 9 rfl o23 dX11_count_12 kf_X11_75 ?_
        refine s_rvB (fun r24 => ?_)
        refine s_iload_n (pc := 15) 1 dX11_count_15 rfl rfl ?_
        refine s_iconst (pc := 16) 3 dX11_count_16 kc_3 ?_
        refine s_isub (pc := 17) dX11_count_17 ?_
        refine s_grd (fun o25 => ?_)
        refine s_grd (fun i26 => ?_)
        refine s_iald (pc := 18) o25 i26 dX11_count_18 ?_
        exact s_iret rfl dX11_count_19
set_option maxRecDepth 100000 in
set_option maxHeartbeats 8000000 in
noncomputable def f_X11_end (M : Mem) (a0 : Nat) (p1 : Int32) : Option (Mem × Int32) :=
  if p1 < 0 then (some (M, (-1))) else (grd (okO M 11 a0) (Option.bind (mR M a0 2) (fun r2 => grd (okO M 7 r2) (if p1 ≤ (mI M r2 4) then (Option.bind (mR M a0 2) (fun r4 => grd (okO M 7 r4) (bv (wI M r4 4 p1) (fun M6 => some (M6, p1))))) else (some (M, (-1)))))))
abbrev Y_X11_end : Sta := (RX11, "end", cX11_end, 2, (some .int), 1)
set_option maxRecDepth 100000 in
set_option maxHeartbeats 8000000 in
theorem t_X11_end {l : Launch} {G : Gh} {M : Mem} {a0 : Nat} {p1 : Int32} {q : Mem × Int32} (h : f_X11_end M a0 p1 = some q) : Ctr l G yX11_end Y_X11_end M [.ref (gh G + a0), .int p1] q.1 (some (.int q.2)) := by
  refine Ctr.of (Y := Y_X11_end) (L := [some (.ref (gh G + a0)), some (.int p1)]) (t := Option.bind (f_X11_end M a0 p1) (fun q => some (q.1, some (.int q.2)))) (by decide) rfl rfl (nle rfl) (Lof_in 0 _ rfl) (fun X hG hl => ?_) (by rw [h]; rfl)
  subst hG
  subst hl
  unfold f_X11_end
  refine s_iload_n (pc := 0) 1 dX11_end_0 rfl rfl ?_
  refine s_iflt (pc := 1) 15 dX11_end_1 rfl ?_ ?_
  · refine s_iconst (pc := 15) (-1) dX11_end_15 kc_m1 ?_
    exact s_iret rfl dX11_end_16
  · refine s_iload_n (pc := 4) 1 dX11_end_4 rfl rfl ?_
    refine s_aload_n (pc := 5) 0 dX11_end_5 rfl rfl ?_
    refine s_grd (fun o1 => ?_)
    refine s_geto (pc := 6) F_11 2 rfl o1 dX11_end_6 kf_X11_23 ?_
    refine s_rvB (fun r2 => ?_)
    refine s_grd (fun o3 => ?_)
    refine s_geti (pc := 9) F_7 4 rfl o3 dX11_end_9 kf_X11_176 ?_
    refine s_icle (pc := 12) 17 dX11_end_12 rfl ?_ ?_
    · refine s_aload_n (pc := 17) 0 dX11_end_17 rfl rfl ?_
      refine s_geto (pc := 18) F_11 2 rfl o1 dX11_end_18 kf_X11_23 ?_
      refine s_rvB (fun r4 => ?_)
      refine s_iload_n (pc := 21) 1 dX11_end_21 rfl rfl ?_
      refine s_grd (fun o5 => ?_)
      refine s_puti (pc := 22) F_7 4 rfl o5 rfl rfl rfl dX11_end_22 kf_X11_176 (fun M6 hM7 => ?_)
      have h8 := le_wI hM7
      have o9 := h8.ok o1
      refine s_iload_n (pc := 25) 1 dX11_end_25 rfl rfl ?_
      exact s_iret rfl dX11_end_26
    · refine s_iconst (pc := 15) (-1) dX11_end_15 kc_m1 ?_
      exact s_iret rfl dX11_end_16
set_option maxRecDepth 100000 in
set_option maxHeartbeats 8000000 in
noncomputable def f_X11_fault (M : Mem) (a0 : Nat) : Option Int32 :=
  grd (okO M 11 a0) (some (mI M a0 14))
abbrev Y_X11_fault : Sta := (RX11, "fault", cX11_fault, 1, (some .int), 1)
set_option maxRecDepth 100000 in
set_option maxHeartbeats 8000000 in
theorem t_X11_fault {l : Launch} {G : Gh} {M : Mem} {a0 : Nat} {q : Int32} (h : f_X11_fault M a0 = some q) : Ctr l G yX11_fault Y_X11_fault M [.ref (gh G + a0)] M (some (.int q)) := by
  refine Ctr.of (Y := Y_X11_fault) (L := [some (.ref (gh G + a0))]) (t := Option.bind (f_X11_fault M a0) (fun q => some (M, some (.int q)))) (by decide) rfl rfl (nle rfl) (Lof_in 0 _ rfl) (fun X hG hl => ?_) (by rw [h]; rfl)
  subst hG
  subst hl
  unfold f_X11_fault
  refine s_aload_n (pc := 0) 0 dX11_fault_0 rfl rfl ?_
  refine s_grd (fun o1 => ?_)
  refine s_geti (pc := 1) F_11 14 rfl o1 dX11_fault_1 kf_X11_82 ?_
  exact s_iret rfl dX11_fault_4
set_option maxRecDepth 100000 in
set_option maxHeartbeats 8000000 in
noncomputable def f_X11_isThing (p0 : Int32) : Option Int32 :=
  if p0 < 0 then (some 0) else (if 6 ≤ p0 then (some 0) else (some 1))
abbrev Y_X11_isThing : Sta := (RX11, "isThing", cX11_isThing, 1, (some .boolean), 1)
set_option maxRecDepth 100000 in
set_option maxHeartbeats 8000000 in
theorem t_X11_isThing {l : Launch} {G : Gh} {M : Mem} {p0 : Int32} {q : Int32} (h : f_X11_isThing p0 = some q) : Ctr l G yX11_isThing Y_X11_isThing M [.int p0] M (some (.int q)) := by
  refine Ctr.of (Y := Y_X11_isThing) (L := [some (.int p0)]) (t := Option.bind (f_X11_isThing p0) (fun q => some (M, some (.int q)))) (by decide) rfl rfl (nle rfl) (Lof_in 0 _ rfl) (fun X hG hl => ?_) (by rw [h]; rfl)
  subst hG
  subst hl
  unfold f_X11_isThing
  refine s_iload_n (pc := 0) 0 dX11_isThing_0 rfl rfl ?_
  refine s_iflt (pc := 1) 14 dX11_isThing_1 rfl ?_ ?_
  · refine s_iconst (pc := 14) 0 dX11_isThing_14 kc_0 ?_
    exact s_zret rfl rfl dX11_isThing_15
  · refine s_iload_n (pc := 4) 0 dX11_isThing_4 rfl rfl ?_
    refine s_bipush (pc := 5) 6 dX11_isThing_5 kb_6 ?_
    refine s_icge (pc := 7) 14 dX11_isThing_7 rfl ?_ ?_
    · refine s_iconst (pc := 14) 0 dX11_isThing_14 kc_0 ?_
      exact s_zret rfl rfl dX11_isThing_15
    · refine s_iconst (pc := 10) 1 dX11_isThing_10 kc_1 ?_
      refine s_goto (pc := 11) 15 dX11_isThing_11 rfl ?_
      exact s_zret rfl rfl dX11_isThing_15
set_option maxRecDepth 100000 in
set_option maxHeartbeats 8000000 in
noncomputable def f_X11_isYear (p0 : Int32) : Option Int32 :=
  if p0 < 0 then (some 0) else (if 999 < p0 then (some 0) else (some 1))
abbrev Y_X11_isYear : Sta := (RX11, "isYear", cX11_isYear, 1, (some .boolean), 1)
set_option maxRecDepth 100000 in
set_option maxHeartbeats 8000000 in
theorem t_X11_isYear {l : Launch} {G : Gh} {M : Mem} {p0 : Int32} {q : Int32} (h : f_X11_isYear p0 = some q) : Ctr l G yX11_isYear Y_X11_isYear M [.int p0] M (some (.int q)) := by
  refine Ctr.of (Y := Y_X11_isYear) (L := [some (.int p0)]) (t := Option.bind (f_X11_isYear p0) (fun q => some (M, some (.int q)))) (by decide) rfl rfl (nle rfl) (Lof_in 0 _ rfl) (fun X hG hl => ?_) (by rw [h]; rfl)
  subst hG
  subst hl
  unfold f_X11_isYear
  refine s_iload_n (pc := 0) 0 dX11_isYear_0 rfl rfl ?_
  refine s_iflt (pc := 1) 15 dX11_isYear_1 rfl ?_ ?_
  · refine s_iconst (pc := 15) 0 dX11_isYear_15 kc_0 ?_
    exact s_zret rfl rfl dX11_isYear_16
  · refine s_iload_n (pc := 4) 0 dX11_isYear_4 rfl rfl ?_
    refine s_sipush (pc := 5) 999 dX11_isYear_5 ks_999 ?_
    refine s_icgt (pc := 8) 15 dX11_isYear_8 rfl ?_ ?_
    · refine s_iconst (pc := 15) 0 dX11_isYear_15 kc_0 ?_
      exact s_zret rfl rfl dX11_isYear_16
    · refine s_iconst (pc := 11) 1 dX11_isYear_11 kc_1 ?_
      refine s_goto (pc := 12) 16 dX11_isYear_12 rfl ?_
      exact s_zret rfl rfl dX11_isYear_16
set_option maxRecDepth 100000 in
set_option maxHeartbeats 8000000 in
noncomputable def f_X11_refuse (M : Mem) (a0 : Nat) (p1 : Int32) : Option (Mem × Int32) :=
  grd (okO M 11 a0) (bv (wI M a0 12 p1) (fun M2 => Option.bind (mR M2 a0 9) (fun r6 => bv (fun (s8 : Int32) => grd (okO M2 14 r6) (grd (vp_in s8 (mL M2 r6)) (bv (wI M2 r6 s8.toNatClampNeg ((mI M2 r6 s8.toNatClampNeg) + 1)) (fun M13 => some (M13, p1))))) (fun j7 => if p1 < (-3) then (j7 ((-p1) - 2)) else (j7 ((-p1) - 1))))))
abbrev Y_X11_refuse : Sta := (RX11, "refuse", cX11_refuse, 2, (some .int), 1)
set_option maxRecDepth 100000 in
set_option maxHeartbeats 8000000 in
theorem t_X11_refuse {l : Launch} {G : Gh} {M : Mem} {a0 : Nat} {p1 : Int32} {q : Mem × Int32} (h : f_X11_refuse M a0 p1 = some q) : Ctr l G yX11_refuse Y_X11_refuse M [.ref (gh G + a0), .int p1] q.1 (some (.int q.2)) := by
  refine Ctr.of (Y := Y_X11_refuse) (L := [some (.ref (gh G + a0)), some (.int p1)]) (t := Option.bind (f_X11_refuse M a0 p1) (fun q => some (q.1, some (.int q.2)))) (by decide) rfl rfl (nle rfl) (Lof_in 0 _ rfl) (fun X hG hl => ?_) (by rw [h]; rfl)
  subst hG
  subst hl
  unfold f_X11_refuse
  refine s_aload_n (pc := 0) 0 dX11_refuse_0 rfl rfl ?_
  refine s_iload_n (pc := 1) 1 dX11_refuse_1 rfl rfl ?_
  refine s_grd (fun o1 => ?_)
  refine s_puti (pc := 2) F_11 12 rfl o1 rfl rfl rfl dX11_refuse_2 kf_X11_365 (fun M2 hM3 => ?_)
  have h4 := le_wI hM3
  have o5 := h4.ok o1
  refine s_aload_n (pc := 5) 0 dX11_refuse_5 rfl rfl ?_
  refine s_geto (pc := 6) F_11 9 rfl o5 dX11_refuse_6 kf_X11_75 ?_
  refine s_rvB (fun r6 => ?_)
  refine s_iload_n (pc := 9) 1 dX11_refuse_9 rfl rfl ?_
  refine s_bipush (pc := 10) (-3) dX11_refuse_10 kb_m3 ?_
  refine s_join M2 (fun s8 : Int32 => M2) 26 (fun s8 : Int32 => [none, some (.int p1)]) (fun s8 : Int32 => [.int s8, .ref (gh (xG X) + r6)]) (fun s8 hs9 => ?_) (fun j7 hj10 => ?_)
  · show S0 X _ M2 26 [none, some (.int p1)] [.int s8, .ref (gh (xG X) + r6)] _
    refine s_dup2 (pc := 26) dX11_refuse_26 rfl rfl ?_
    refine s_grd (fun o11 => ?_)
    refine s_grd (fun i12 => ?_)
    refine s_iald (pc := 27) o11 i12 dX11_refuse_27 ?_
    refine s_iconst (pc := 28) 1 dX11_refuse_28 kc_1 ?_
    refine s_iadd (pc := 29) dX11_refuse_29 ?_
    refine s_iast (pc := 30) o11 i12 dX11_refuse_30 (fun M13 hM14 => ?_)
    have h15 := le_wI hM14
    refine s_iload_n (pc := 31) 1 dX11_refuse_31 rfl rfl ?_
    exact s_iret rfl dX11_refuse_32
  · refine s_iclt (pc := 12) 22 dX11_refuse_12 rfl ?_ ?_
    · refine s_iload_n (pc := 22) 1 dX11_refuse_22 rfl rfl ?_
      refine s_ineg (pc := 23) dX11_refuse_23 ?_
      refine s_iconst (pc := 24) 2 dX11_refuse_24 kc_2 ?_
      refine s_isub (pc := 25) dX11_refuse_25 ?_
      exact s_drop (hj10 ((-p1) - 2) Le.rf) (And.intro rfl trivial)
    · refine s_iload_n (pc := 15) 1 dX11_refuse_15 rfl rfl ?_
      refine s_ineg (pc := 16) dX11_refuse_16 ?_
      refine s_iconst (pc := 17) 1 dX11_refuse_17 kc_1 ?_
      refine s_isub (pc := 18) dX11_refuse_18 ?_
      refine s_goto (pc := 19) 26 dX11_refuse_19 rfl ?_
      exact s_drop (hj10 ((-p1) - 1) Le.rf) (And.intro rfl trivial)
set_option maxRecDepth 100000 in
set_option maxHeartbeats 8000000 in
noncomputable def f_X11_status (M : Mem) (a0 : Nat) : Option Int32 :=
  grd (okO M 11 a0) (some (mI M a0 12))
abbrev Y_X11_status : Sta := (RX11, "status", cX11_status, 1, (some .int), 1)
set_option maxRecDepth 100000 in
set_option maxHeartbeats 8000000 in
theorem t_X11_status {l : Launch} {G : Gh} {M : Mem} {a0 : Nat} {q : Int32} (h : f_X11_status M a0 = some q) : Ctr l G yX11_status Y_X11_status M [.ref (gh G + a0)] M (some (.int q)) := by
  refine Ctr.of (Y := Y_X11_status) (L := [some (.ref (gh G + a0))]) (t := Option.bind (f_X11_status M a0) (fun q => some (M, some (.int q)))) (by decide) rfl rfl (nle rfl) (Lof_in 0 _ rfl) (fun X hG hl => ?_) (by rw [h]; rfl)
  subst hG
  subst hl
  unfold f_X11_status
  refine s_aload_n (pc := 0) 0 dX11_status_0 rfl rfl ?_
  refine s_grd (fun o1 => ?_)
  refine s_geti (pc := 1) F_11 12 rfl o1 dX11_status_1 kf_X11_365 ?_
  exact s_iret rfl dX11_status_4
set_option maxRecDepth 100000 in
set_option maxHeartbeats 8000000 in
noncomputable def f_X11_stopped (M : Mem) (a0 : Nat) : Option Int32 :=
  grd (okO M 11 a0) (some (mI M a0 15))
abbrev Y_X11_stopped : Sta := (RX11, "stopped", cX11_stopped, 1, (some .int), 1)
set_option maxRecDepth 100000 in
set_option maxHeartbeats 8000000 in
theorem t_X11_stopped {l : Launch} {G : Gh} {M : Mem} {a0 : Nat} {q : Int32} (h : f_X11_stopped M a0 = some q) : Ctr l G yX11_stopped Y_X11_stopped M [.ref (gh G + a0)] M (some (.int q)) := by
  refine Ctr.of (Y := Y_X11_stopped) (L := [some (.ref (gh G + a0))]) (t := Option.bind (f_X11_stopped M a0) (fun q => some (M, some (.int q)))) (by decide) rfl rfl (nle rfl) (Lof_in 0 _ rfl) (fun X hG hl => ?_) (by rw [h]; rfl)
  subst hG
  subst hl
  unfold f_X11_stopped
  refine s_aload_n (pc := 0) 0 dX11_stopped_0 rfl rfl ?_
  refine s_grd (fun o1 => ?_)
  refine s_geti (pc := 1) F_11 15 rfl o1 dX11_stopped_1 kf_X11_86 ?_
  exact s_iret rfl dX11_stopped_4
set_option maxRecDepth 100000 in
set_option maxHeartbeats 8000000 in
noncomputable def f_X12_adds (M : Mem) (a0 : Nat) (p1 : Int32) (p2 : Int32) (p3 : Int32) : Option Mem :=
  grd (okO M 12 a0) (Option.bind (mR M a0 3) (fun r2 => grd (okO M 14 r2) (grd (vp_in 56 (mL M r2)) (bv (18 + (3 * (mI M r2 (56 : Int32).toNatClampNeg)) : Int32) (fun x5 => Option.bind (mR M a0 3) (fun r6 => grd (okO M 14 r6) (grd (vp_in (x5 + 0) (mL M r6)) (bv (wI M r6 (x5 + 0).toNatClampNeg p1) (fun M9 => Option.bind (mR M9 a0 3) (fun r13 => grd (okO M9 14 r13) (grd (vp_in (x5 + 1) (mL M9 r13)) (bv (wI M9 r13 (x5 + 1).toNatClampNeg p2) (fun M16 => Option.bind (mR M16 a0 3) (fun r20 => grd (okO M16 14 r20) (grd (vp_in (x5 + 2) (mL M16 r20)) (bv (wI M16 r20 (x5 + 2).toNatClampNeg p3) (fun M23 => Option.bind (mR M23 a0 3) (fun r27 => grd (okO M23 14 r27) (grd (vp_in 56 (mL M23 r27)) (bv (wI M23 r27 (56 : Int32).toNatClampNeg ((mI M23 r27 (56 : Int32).toNatClampNeg) + 1)) (fun M30 => some M30)))))))))))))))))))))
abbrev Y_X12_adds : Sta := (RX12, "adds", cX12_adds, 5, none, 1)
set_option maxRecDepth 100000 in
set_option maxHeartbeats 8000000 in
theorem t_X12_adds {l : Launch} {G : Gh} {M : Mem} {a0 : Nat} {p1 : Int32} {p2 : Int32} {p3 : Int32} {q : Mem} (h : f_X12_adds M a0 p1 p2 p3 = some q) : Ctr l G yX12_adds Y_X12_adds M [.ref (gh G + a0), .int p1, .int p2, .int p3] q (none) := by
  refine Ctr.of (Y := Y_X12_adds) (L := [some (.ref (gh G + a0)), some (.int p1), some (.int p2), some (.int p3), none]) (t := Option.bind (f_X12_adds M a0 p1 p2 p3) (fun q => some (q, (none : Option Value)))) (by decide) rfl rfl (nle rfl) (Lof_in 1 _ rfl) (fun X hG hl => ?_) (by rw [h]; rfl)
  subst hG
  subst hl
  unfold f_X12_adds
  refine s_bipush (pc := 0) 18 dX12_adds_0 kb_18 ?_
  refine s_iconst (pc := 2) 3 dX12_adds_2 kc_3 ?_
  refine s_aload_n (pc := 3) 0 dX12_adds_3 rfl rfl ?_
  refine s_grd (fun o1 => ?_)
  refine s_geto (pc := 4) F_12 3 rfl o1 dX12_adds_4 kf_X12_20 ?_
  refine s_rvB (fun r2 => ?_)
  refine s_bipush (pc := 7) 56 dX12_adds_7 kb_56 ?_
  refine s_grd (fun o3 => ?_)
  refine s_grd (fun i4 => ?_)
  refine s_iald (pc := 9) o3 i4 dX12_adds_9 ?_
  refine s_imul (pc := 10) dX12_adds_10 ?_
  refine s_iadd (pc := 11) dX12_adds_11 ?_
  refine s_istore (pc := 12) dX12_adds_12 (nlt rfl) rfl (L' := [some (.ref (gh (xG X) + a0)), some (.int p1), some (.int p2), some (.int p3), some (.int (18 + (3 * (mI M r2 (56 : Int32).toNatClampNeg))))]) rfl ?_
  refine s_bv (fun x5 : Int32 => [some (.ref (gh (xG X) + a0)), some (.int p1), some (.int p2), some (.int p3), some (.int x5)]) (fun x5 => ?_) rfl
  refine s_aload_n (pc := 14) 0 dX12_adds_14 rfl rfl ?_
  refine s_geto (pc := 15) F_12 3 rfl o1 dX12_adds_15 kf_X12_20 ?_
  refine s_rvB (fun r6 => ?_)
  refine s_iload (pc := 18) dX12_adds_18 rfl ?_
  refine s_iconst (pc := 20) 0 dX12_adds_20 kc_0 ?_
  refine s_iadd (pc := 21) dX12_adds_21 ?_
  refine s_iload_n (pc := 22) 1 dX12_adds_22 rfl rfl ?_
  refine s_grd (fun o7 => ?_)
  refine s_grd (fun i8 => ?_)
  refine s_iast (pc := 23) o7 i8 dX12_adds_23 (fun M9 hM10 => ?_)
  have h11 := le_wI hM10
  have o12 := h11.ok o1
  refine s_aload_n (pc := 24) 0 dX12_adds_24 rfl rfl ?_
  refine s_geto (pc := 25) F_12 3 rfl o12 dX12_adds_25 kf_X12_20 ?_
  refine s_rvB (fun r13 => ?_)
  refine s_iload (pc := 28) dX12_adds_28 rfl ?_
  refine s_iconst (pc := 30) 1 dX12_adds_30 kc_1 ?_
  refine s_iadd (pc := 31) dX12_adds_31 ?_
  refine s_iload_n (pc := 32) 2 dX12_adds_32 rfl rfl ?_
  refine s_grd (fun o14 => ?_)
  refine s_grd (fun i15 => ?_)
  refine s_iast (pc := 33) o14 i15 dX12_adds_33 (fun M16 hM17 => ?_)
  have h18 := le_wI hM17
  have o19 := h18.ok o12
  refine s_aload_n (pc := 34) 0 dX12_adds_34 rfl rfl ?_
  refine s_geto (pc := 35) F_12 3 rfl o19 dX12_adds_35 kf_X12_20 ?_
  refine s_rvB (fun r20 => ?_)
  refine s_iload (pc := 38) dX12_adds_38 rfl ?_
  refine s_iconst (pc := 40) 2 dX12_adds_40 kc_2 ?_
  refine s_iadd (pc := 41) dX12_adds_41 ?_
  refine s_iload_n (pc := 42) 3 dX12_adds_42 rfl rfl ?_
  refine s_grd (fun o21 => ?_)
  refine s_grd (fun i22 => ?_)
  refine s_iast (pc := 43) o21 i22 dX12_adds_43 (fun M23 hM24 => ?_)
  have h25 := le_wI hM24
  have o26 := h25.ok o19
  refine s_aload_n (pc := 44) 0 dX12_adds_44 rfl rfl ?_
  refine s_geto (pc := 45) F_12 3 rfl o26 dX12_adds_45 kf_X12_20 ?_
  refine s_rvB (fun r27 => ?_)
  refine s_bipush (pc := 48) 56 dX12_adds_48 kb_56 ?_
  refine s_dup2 (pc := 50) dX12_adds_50 rfl rfl ?_
  refine s_grd (fun o28 => ?_)
  refine s_grd (fun i29 => ?_)
  refine s_iald (pc := 51) o28 i29 dX12_adds_51 ?_
  refine s_iconst (pc := 52) 1 dX12_adds_52 kc_1 ?_
  refine s_iadd (pc := 53) dX12_adds_53 ?_
  refine s_iast (pc := 54) o28 i29 dX12_adds_54 (fun M30 hM31 => ?_)
  have h32 := le_wI hM31
  have o33 := h32.ok o26
  exact s_vret rfl dX12_adds_55
set_option maxRecDepth 100000 in
set_option maxHeartbeats 8000000 in
noncomputable def f_X12_bounded (M : Mem) (a0 : Nat) (p1 : Int64) (p3 : Int32) : Option (Mem × Int64) :=
  bv (fun (s2 : Mem) => grd (okO s2 12 a0) (if (mI s2 a0 28) = 0 then (some (s2, p1)) else (some (s2, 0)))) (fun j1 => if p3 = 0 then (j1 M) else (bv (fun (s7 : Unit) => grd (okO M 12 a0) (bv (wI M a0 28 1) (fun M11 => j1 M11))) (fun j6 => if 0 < (lg_cmp p1 1000000000) then (j6 ()) else (if 0 ≤ (lg_cmp p1 (-1000000000)) then (j1 M) else (j6 ())))))
abbrev Y_X12_bounded : Sta := (RX12, "bounded", cX12_bounded, 4, (some .long), 1)
set_option maxRecDepth 100000 in
set_option maxHeartbeats 8000000 in
theorem t_X12_bounded {l : Launch} {G : Gh} {M : Mem} {a0 : Nat} {p1 : Int64} {p3 : Int32} {q : Mem × Int64} (h : f_X12_bounded M a0 p1 p3 = some q) : Ctr l G yX12_bounded Y_X12_bounded M [.ref (gh G + a0), .long p1, .int p3] q.1 (some (.long q.2)) := by
  refine Ctr.of (Y := Y_X12_bounded) (L := [some (.ref (gh G + a0)), some (.long p1), none, some (.int p3)]) (t := Option.bind (f_X12_bounded M a0 p1 p3) (fun q => some (q.1, some (.long q.2)))) (by decide) rfl rfl (nle rfl) (Lof_in 0 _ rfl) (fun X hG hl => ?_) (by rw [h]; rfl)
  subst hG
  subst hl
  unfold f_X12_bounded
  refine s_iload_n (pc := 0) 3 dX12_bounded_0 rfl rfl ?_
  refine s_join M (fun s2 : Mem => s2) 25 (fun s2 : Mem => [some (.ref (gh (xG X) + a0)), some (.long p1), none, none]) (fun s2 : Mem => []) (fun s2 hs3 => ?_) (fun j1 hj4 => ?_)
  · show S0 X _ s2 25 [some (.ref (gh (xG X) + a0)), some (.long p1), none, none] [] _
    refine s_aload_n (pc := 25) 0 dX12_bounded_25 rfl rfl ?_
    refine s_grd (fun o5 => ?_)
    refine s_geti (pc := 26) F_12 28 rfl o5 dX12_bounded_26 kf_X12_319 ?_
    refine s_ifeq (pc := 29) 36 dX12_bounded_29 rfl ?_ ?_
    · refine s_lload_n (pc := 36) 1 dX12_bounded_36 rfl rfl ?_
      exact s_lret rfl dX12_bounded_37
    · refine s_lconst (pc := 32) 0 dX12_bounded_32 kl_0 ?_
      refine s_goto (pc := 33) 37 dX12_bounded_33 rfl ?_
      exact s_lret rfl dX12_bounded_37
  · refine s_ifeq (pc := 1) 25 dX12_bounded_1 rfl ?_ ?_
    · exact s_drop (hj4 M Le.rf) (And.intro rfl (And.intro rfl trivial))
    · refine s_lload_n (pc := 4) 1 dX12_bounded_4 rfl rfl ?_
      refine s_ldc2 (pc := 5) dX12_bounded_5 kl_X12_315 ?_
      refine s_lcmp (pc := 8) dX12_bounded_8 ?_
      refine s_join M (fun s7 : Unit => M) 20 (fun s7 : Unit => [some (.ref (gh (xG X) + a0)), some (.long p1), none, none]) (fun s7 : Unit => []) (fun s7 hs8 => ?_) (fun j6 hj9 => ?_)
      · show S0 X _ M 20 [some (.ref (gh (xG X) + a0)), some (.long p1), none, none] [] _
        refine s_aload_n (pc := 20) 0 dX12_bounded_20 rfl rfl ?_
        refine s_iconst (pc := 21) 1 dX12_bounded_21 kc_1 ?_
        refine s_grd (fun o10 => ?_)
        refine s_puti (pc := 22) F_12 28 rfl o10 rfl rfl (by decide) dX12_bounded_22 kf_X12_319 (fun M11 hM12 => ?_)
        have h13 := le_wI hM12
        have o14 := h13.ok o10
        exact s_drop (hj4 M11 h13) (And.intro rfl (And.intro rfl trivial))
      · refine s_ifgt (pc := 9) 20 dX12_bounded_9 rfl ?_ ?_
        · exact s_drop (hj9 () Le.rf) (And.intro rfl (And.intro rfl trivial))
        · refine s_lload_n (pc := 12) 1 dX12_bounded_12 rfl rfl ?_
          refine s_ldc2 (pc := 13) dX12_bounded_13 kl_X12_317 ?_
          refine s_lcmp (pc := 16) dX12_bounded_16 ?_
          refine s_ifge (pc := 17) 25 dX12_bounded_17 rfl ?_ ?_
          · exact s_drop (hj4 M Le.rf) (And.intro rfl (And.intro rfl trivial))
          · exact s_drop (hj9 () Le.rf) (And.intro rfl (And.intro rfl trivial))
set_option maxRecDepth 100000 in
set_option maxHeartbeats 8000000 in
noncomputable def f_X12_burnt (M : Mem) (a0 : Nat) : Option Int32 :=
  grd (okO M 12 a0) (some (mI M a0 12))
abbrev Y_X12_burnt : Sta := (RX12, "burnt", cX12_burnt, 1, (some .int), 1)
set_option maxRecDepth 100000 in
set_option maxHeartbeats 8000000 in
theorem t_X12_burnt {l : Launch} {G : Gh} {M : Mem} {a0 : Nat} {q : Int32} (h : f_X12_burnt M a0 = some q) : Ctr l G yX12_burnt Y_X12_burnt M [.ref (gh G + a0)] M (some (.int q)) := by
  refine Ctr.of (Y := Y_X12_burnt) (L := [some (.ref (gh G + a0))]) (t := Option.bind (f_X12_burnt M a0) (fun q => some (M, some (.int q)))) (by decide) rfl rfl (nle rfl) (Lof_in 0 _ rfl) (fun X hG hl => ?_) (by rw [h]; rfl)
  subst hG
  subst hl
  unfold f_X12_burnt
  refine s_aload_n (pc := 0) 0 dX12_burnt_0 rfl rfl ?_
  refine s_grd (fun o1 => ?_)
  refine s_geti (pc := 1) F_12 12 rfl o1 dX12_burnt_1 kf_X12_214 ?_
  exact s_iret rfl dX12_burnt_4
set_option maxRecDepth 100000 in
set_option maxHeartbeats 8000000 in
noncomputable def f_X12_closes (M : Mem) (a0 : Nat) : Option Int32 :=
  Option.bind (loopO (σ := Int32 × Int32) (ρ := Int32) (fun s1 => grd (okO M 12 a0) (if (mI M a0 7) ≤ s1.2 then (some (.inr s1.1)) else (Option.bind (mR M a0 6) (fun r10 => grd (okO M 14 r10) (grd (vp_in s1.2 (mL M r10)) (bv (((10 * s1.1) + (mI M r10 s1.2.toNatClampNeg)) + 1 : Int32) (fun x13 => bv (s1.2 + 1 : Int32) (fun x14 => some (.inl (x13, x14)))))))))) (0, 0)) (fun (x7 : Int32) => some x7)
abbrev Y_X12_closes : Sta := (RX12, "closes", cX12_closes, 3, (some .int), 1)
set_option maxRecDepth 100000 in
set_option maxHeartbeats 8000000 in
theorem t_X12_closes {l : Launch} {G : Gh} {M : Mem} {a0 : Nat} {q : Int32} (h : f_X12_closes M a0 = some q) : Ctr l G yX12_closes Y_X12_closes M [.ref (gh G + a0)] M (some (.int q)) := by
  refine Ctr.of (Y := Y_X12_closes) (L := [some (.ref (gh G + a0)), none, none]) (t := Option.bind (f_X12_closes M a0) (fun q => some (M, some (.int q)))) (by decide) rfl rfl (nle rfl) (Lof_in 2 _ rfl) (fun X hG hl => ?_) (by rw [h]; rfl)
  subst hG
  subst hl
  unfold f_X12_closes
  refine s_iconst (pc := 0) 0 dX12_closes_0 kc_0 ?_
  refine s_istore_n (pc := 1) 1 dX12_closes_1 rfl (nlt rfl) rfl (L' := [some (.ref (gh (xG X) + a0)), some (.int 0), none]) rfl ?_
  refine s_iconst (pc := 2) 0 dX12_closes_2 kc_0 ?_
  refine s_istore_n (pc := 3) 2 dX12_closes_3 rfl (nlt rfl) rfl (L' := [some (.ref (gh (xG X) + a0)), some (.int 0), some (.int 0)]) rfl ?_
  refine s_drop (L' := [some (.ref (gh (xG X) + a0)), some (.int 0), some (.int 0)]) ?_ (And.intro rfl (And.intro rfl (And.intro rfl trivial)))
  refine s_loop1 M (fun s1 : Int32 × Int32 => M) (fun s1 : Int32 × Int32 => [some (.ref (gh (xG X) + a0)), some (.int s1.1), some (.int s1.2)]) (fun x7 : Int32 => M) 32 (fun x7 : Int32 => [none, some (.int x7), none]) (fun x7 hx8 => ?_) (fun T3 R5 hT4 hR6 s1 hs2 => ?_) (0, 0) Le.rf
  · show S0 X _ M 32 [none, some (.int x7), none] [] _
    refine s_iload_n (pc := 32) 1 dX12_closes_32 rfl rfl ?_
    exact s_iret rfl dX12_closes_33
  · show S0 X _ M 4 [some (.ref (gh (xG X) + a0)), some (.int s1.1), some (.int s1.2)] [] _
    refine s_iload_n (pc := 4) 2 dX12_closes_4 rfl rfl ?_
    refine s_aload_n (pc := 5) 0 dX12_closes_5 rfl rfl ?_
    refine s_grd (fun o9 => ?_)
    refine s_geti (pc := 6) F_12 7 rfl o9 dX12_closes_6 kf_X12_142 ?_
    refine s_icge (pc := 9) 32 dX12_closes_9 rfl ?_ ?_
    · exact s_drop (hR6 s1.1 Le.rf) (And.intro rfl trivial)
    · refine s_bipush (pc := 12) 10 dX12_closes_12 kb_10 ?_
      refine s_iload_n (pc := 14) 1 dX12_closes_14 rfl rfl ?_
      refine s_imul (pc := 15) dX12_closes_15 ?_
      refine s_aload_n (pc := 16) 0 dX12_closes_16 rfl rfl ?_
      refine s_geto (pc := 17) F_12 6 rfl o9 dX12_closes_17 kf_X12_30 ?_
      refine s_rvB (fun r10 => ?_)
      refine s_iload_n (pc := 20) 2 dX12_closes_20 rfl rfl ?_
      refine s_grd (fun o11 => ?_)
      refine s_grd (fun i12 => ?_)
      refine s_iald (pc := 21) o11 i12 dX12_closes_21 ?_
      refine s_iadd (pc := 22) dX12_closes_22 ?_
      refine s_iconst (pc := 23) 1 dX12_closes_23 kc_1 ?_
      refine s_iadd (pc := 24) dX12_closes_24 ?_
      refine s_istore_n (pc := 25) 1 dX12_closes_25 rfl (nlt rfl) rfl (L' := [some (.ref (gh (xG X) + a0)), some (.int (((10 * s1.1) + (mI M r10 s1.2.toNatClampNeg)) + 1)), some (.int s1.2)]) rfl ?_
      refine s_bv (fun x13 : Int32 => [some (.ref (gh (xG X) + a0)), some (.int x13), some (.int s1.2)]) (fun x13 => ?_) rfl
      refine s_iinc (pc := 26) dX12_closes_26 rfl (v := s1.2 + 1) (congrArg (fun z : Int32 => s1.2 + z) kc_1) (nlt rfl) rfl (L' := [some (.ref (gh (xG X) + a0)), some (.int x13), some (.int (s1.2 + 1))]) rfl ?_
      refine s_bv (fun x14 : Int32 => [some (.ref (gh (xG X) + a0)), some (.int x13), some (.int x14)]) (fun x14 => ?_) rfl
      refine s_goto (pc := 29) 4 dX12_closes_29 rfl ?_
      exact s_drop (hT4 (x13, x14) Le.rf) (And.intro rfl (And.intro rfl (And.intro rfl trivial)))
set_option maxRecDepth 100000 in
set_option maxHeartbeats 8000000 in
noncomputable def f_X12_codeAt (M : Mem) (a0 : Nat) (p1 : Int32) : Option Int32 :=
  grd (okO M 12 a0) (if (mI M a0 27) ≤ p1 then (some 0) else (Option.bind (mR M a0 3) (fun r2 => grd (okO M 14 r2) (grd (vp_in (66 + p1) (mL M r2)) (some (mI M r2 (66 + p1).toNatClampNeg))))))
abbrev Y_X12_codeAt : Sta := (RX12, "codeAt", cX12_codeAt, 2, (some .int), 1)
set_option maxRecDepth 100000 in
set_option maxHeartbeats 8000000 in
theorem t_X12_codeAt {l : Launch} {G : Gh} {M : Mem} {a0 : Nat} {p1 : Int32} {q : Int32} (h : f_X12_codeAt M a0 p1 = some q) : Ctr l G yX12_codeAt Y_X12_codeAt M [.ref (gh G + a0), .int p1] M (some (.int q)) := by
  refine Ctr.of (Y := Y_X12_codeAt) (L := [some (.ref (gh G + a0)), some (.int p1)]) (t := Option.bind (f_X12_codeAt M a0 p1) (fun q => some (M, some (.int q)))) (by decide) rfl rfl (nle rfl) (Lof_in 0 _ rfl) (fun X hG hl => ?_) (by rw [h]; rfl)
  subst hG
  subst hl
  unfold f_X12_codeAt
  refine s_iload_n (pc := 0) 1 dX12_codeAt_0 rfl rfl ?_
  refine s_aload_n (pc := 1) 0 dX12_codeAt_1 rfl rfl ?_
  refine s_grd (fun o1 => ?_)
  refine s_geti (pc := 2) F_12 27 rfl o1 dX12_codeAt_2 kf_X12_306 ?_
  refine s_icge (pc := 5) 20 dX12_codeAt_5 rfl ?_ ?_
  · refine s_iconst (pc := 20) 0 dX12_codeAt_20 kc_0 ?_
    exact s_iret rfl dX12_codeAt_21
  · refine s_aload_n (pc := 8) 0 dX12_codeAt_8 rfl rfl ?_
    refine s_geto (pc := 9) F_12 3 rfl o1 dX12_codeAt_9 kf_X12_20 ?_
    refine s_rvB (fun r2 => ?_)
    refine s_bipush (pc := 12) 66 dX12_codeAt_12 kb_66 ?_
    refine s_iload_n (pc := 14) 1 dX12_codeAt_14 rfl rfl ?_
    refine s_iadd (pc := 15) dX12_codeAt_15 ?_
    refine s_grd (fun o3 => ?_)
    refine s_grd (fun i4 => ?_)
    refine s_iald (pc := 16) o3 i4 dX12_codeAt_16 ?_
    refine s_goto (pc := 17) 21 dX12_codeAt_17 rfl ?_
    exact s_iret rfl dX12_codeAt_21
set_option maxRecDepth 100000 in
set_option maxHeartbeats 8000000 in
noncomputable def f_X12_count (M : Mem) (a0 : Nat) (p1 : Int32) : Option Int32 :=
  bv (fun (s2 : Unit) => grd (okO M 12 a0) (Option.bind (mR M a0 2) (fun r6 => grd (okO M 14 r6) (grd (vp_in (p1 - 2) (mL M r6)) (some (mI M r6 (p1 - 2).toNatClampNeg)))))) (fun j1 => swO p1 (swC 0 [(60, grd (okO M 12 a0) (Option.bind (mR M a0 3) (fun r10 => grd (okO M 14 r10) (grd (vp_in 56 (mL M r10)) (some (mI M r10 (56 : Int32).toNatClampNeg)))))), (68, grd (okO M 12 a0) (Option.bind (mR M a0 3) (fun r14 => grd (okO M 14 r14) (grd (vp_in 57 (mL M r14)) (some (mI M r14 (57 : Int32).toNatClampNeg)))))), (76, grd (okO M 12 a0) (some (mI M a0 17))), (81, j1 ()), (81, j1 ()), (81, j1 ()), (90, grd (okO M 12 a0) (Option.bind (mR M a0 2) (fun r19 => grd (okO M 14 r19) (grd (vp_in 5 (mL M r19)) (some (mI M r19 (5 : Int32).toNatClampNeg)))))), (97, grd (okO M 12 a0) (Option.bind (mR M a0 2) (fun r23 => grd (okO M 14 r23) (grd (vp_in 6 (mL M r23)) (some (mI M r23 (6 : Int32).toNatClampNeg)))))), (105, grd (okO M 12 a0) (Option.bind (mR M a0 3) (fun r27 => grd (okO M 14 r27) (grd (vp_in 58 (mL M r27)) (some (mI M r27 (58 : Int32).toNatClampNeg)))))), (113, grd (okO M 12 a0) (Option.bind (mR M a0 3) (fun r31 => grd (okO M 14 r31) (grd (vp_in 54 (mL M r31)) (some (mI M r31 (54 : Int32).toNatClampNeg)))))), (121, grd (okO M 12 a0) (Option.bind (mR M a0 3) (fun r35 => grd (okO M 14 r35) (grd (vp_in 55 (mL M r35)) (some (mI M r35 (55 : Int32).toNatClampNeg))))))]) (some (-1)))
abbrev Y_X12_count : Sta := (RX12, "count", cX12_count, 2, (some .int), 1)
set_option maxRecDepth 100000 in
set_option maxHeartbeats 8000000 in
theorem t_X12_count {l : Launch} {G : Gh} {M : Mem} {a0 : Nat} {p1 : Int32} {q : Int32} (h : f_X12_count M a0 p1 = some q) : Ctr l G yX12_count Y_X12_count M [.ref (gh G + a0), .int p1] M (some (.int q)) := by
  refine Ctr.of (Y := Y_X12_count) (L := [some (.ref (gh G + a0)), some (.int p1)]) (t := Option.bind (f_X12_count M a0 p1) (fun q => some (M, some (.int q)))) (by decide) rfl rfl (nle rfl) (Lof_in 0 _ rfl) (fun X hG hl => ?_) (by rw [h]; rfl)
  subst hG
  subst hl
  unfold f_X12_count
  refine s_iload_n (pc := 0) 1 dX12_count_0 rfl rfl ?_
  refine s_join M (fun s2 : Unit => M) 81 (fun s2 : Unit => [some (.ref (gh (xG X) + a0)), some (.int p1)]) (fun s2 : Unit => []) (fun s2 hs3 => ?_) (fun j1 hj4 => ?_)
  · show S0 X _ M 81 [some (.ref (gh (xG X) + a0)), some (.int p1)] [] _
    refine s_aload_n (pc := 81) 0 dX12_count_81 rfl rfl ?_
    refine s_grd (fun o5 => ?_)
    refine s_geto (pc := 82) F_12 2 rfl o5 dX12_count_82 kf_X12_7 ?_
    refine s_rvB (fun r6 => ?_)
    refine s_iload_n (pc := 85) 1 dX12_count_85 rfl rfl ?_
    refine s_iconst (pc := 86) 2 dX12_count_86 kc_2 ?_
    refine s_isub (pc := 87) dX12_count_87 ?_
    refine s_grd (fun o7 => ?_)
    refine s_grd (fun i8 => ?_)
    refine s_iald (pc := 88) o7 i8 dX12_count_88 ?_
    exact s_iret rfl dX12_count_89
  · refine s_tsw (pc := 1) _ 129 dX12_count_1 rfl rfl (And.intro (by decide) (And.intro (by simp only [List.length_cons, List.length_nil]; decide) rfl)) ?_ ?_
    · refine (And.intro ?_ (And.intro ?_ (And.intro ?_ (And.intro ?_ (And.intro ?_ (And.intro ?_ (And.intro ?_ (And.intro ?_ (And.intro ?_ (And.intro ?_ (And.intro ?_ trivial)))))))))))
      · dsimp only
        refine s_aload_n (pc := 60) 0 dX12_count_60 rfl rfl ?_
        refine s_grd (fun o9 => ?_)
        refine s_geto (pc := 61) F_12 3 rfl o9 dX12_count_61 kf_X12_20 ?_
        refine s_rvB (fun r10 => ?_)
        refine s_bipush (pc := 64) 56 dX12_count_64 kb_56 ?_
        refine s_grd (fun o11 => ?_)
        refine s_grd (fun i12 => ?_)
        refine s_iald (pc := 66) o11 i12 dX12_count_66 ?_
        exact s_iret rfl dX12_count_67
      · dsimp only
        refine s_aload_n (pc := 68) 0 dX12_count_68 rfl rfl ?_
        refine s_grd (fun o13 => ?_)
        refine s_geto (pc := 69) F_12 3 rfl o13 dX12_count_69 kf_X12_20 ?_
        refine s_rvB (fun r14 => ?_)
        refine s_bipush (pc := 72) 57 dX12_count_72 kb_57 ?_
        refine s_grd (fun o15 => ?_)
        refine s_grd (fun i16 => ?_)
        refine s_iald (pc := 74) o15 i16 dX12_count_74 ?_
        exact s_iret rfl dX12_count_75
      · dsimp only
        refine s_aload_n (pc := 76) 0 dX12_count_76 rfl rfl ?_
        refine s_grd (fun o17 => ?_)
        refine s_geti (pc := 77) F_12 17 rfl o17 dX12_count_77 kf_X12_211 ?_
        exact s_iret rfl dX12_count_80
      · dsimp only
        exact s_drop (hj4 () Le.rf) (And.intro rfl (And.intro rfl trivial))
      · dsimp only
        exact s_drop (hj4 () Le.rf) (And.intro rfl (And.intro rfl trivial))
      · dsimp only
        exact s_drop (hj4 () Le.rf) (And.intro rfl (And.intro rfl trivial))
      · dsimp only
        refine s_aload_n (pc := 90) 0 dX12_count_90 rfl rfl ?_
        refine s_grd (fun o18 => ?_)
        refine s_geto (pc := 91) F_12 2 rfl o18 dX12_count_91 kf_X12_7 ?_
        refine s_rvB (fun r19 => ?_)
        refine s_iconst (pc := 94) 5 dX12_count_94 kc_5 ?_
        refine s_grd (fun o20 => ?_)
        refine s_grd (fun i21 => ?_)
        refine s_iald (pc := 95) o20 i21 dX12_count_95 ?_
        exact s_iret rfl dX12_count_96
      · dsimp only
        refine s_aload_n (pc := 97) 0 dX12_count_97 rfl rfl ?_
        refine s_grd (fun o22 => ?_)
        refine s_geto (pc := 98) F_12 2 rfl o22 dX12_count_98 kf_X12_7 ?_
        refine s_rvB (fun r23 => ?_)
        refine s_bipush (pc := 101) 6 dX12_count_101 kb_6 ?_
        refine s_grd (fun o24 => ?_)
        refine s_grd (fun i25 => ?_)
        refine s_iald (pc := 103) o24 i25 dX12_count_103 ?_
        exact s_iret rfl dX12_count_104
      · dsimp only
        refine s_aload_n (pc := 105) 0 dX12_count_105 rfl rfl ?_
        refine s_grd (fun o26 => ?_)
        refine s_geto (pc := 106) F_12 3 rfl o26 dX12_count_106 kf_X12_20 ?_
        refine s_rvB (fun r27 => ?_)
        refine s_bipush (pc := 109) 58 dX12_count_109 kb_58 ?_
        refine s_grd (fun o28 => ?_)
        refine s_grd (fun i29 => ?_)
        refine s_iald (pc := 111) o28 i29 dX12_count_111 ?_
        exact s_iret rfl dX12_count_112
      · dsimp only
        refine s_aload_n (pc := 113) 0 dX12_count_113 rfl rfl ?_
        refine s_grd (fun o30 => ?_)
        refine s_geto (pc := 114) F_12 3 rfl o30 dX12_count_114 kf_X12_20 ?_
        refine s_rvB (fun r31 => ?_)
        refine s_bipush (pc := 117) 54 dX12_count_117 kb_54 ?_
        refine s_grd (fun o32 => ?_)
        refine s_grd (fun i33 => ?_)
        refine s_iald (pc := 119) o32 i33 dX12_count_119 ?_
        exact s_iret rfl dX12_count_120
      · dsimp only
        refine s_aload_n (pc := 121) 0 dX12_count_121 rfl rfl ?_
        refine s_grd (fun o34 => ?_)
        refine s_geto (pc := 122) F_12 3 rfl o34 dX12_count_122 kf_X12_20 ?_
        refine s_rvB (fun r35 => ?_)
        refine s_bipush (pc := 125) 55 dX12_count_125 kb_55 ?_
        refine s_grd (fun o36 => ?_)
        refine s_grd (fun i37 => ?_)
        refine s_iald (pc := 127) o36 i37 dX12_count_127 ?_
        exact s_iret rfl dX12_count_128
    · refine s_iconst (pc := 129) (-1) dX12_count_129 kc_m1 ?_
      exact s_iret rfl dX12_count_130
set_option maxRecDepth 100000 in
set_option maxHeartbeats 8000000 in
noncomputable def f_X12_dishAt (p0 : Int32) : Option Int32 :=
  Option.bind (loopO (σ := Int32 × Int32 × Int32) (ρ := Int32 × Int32) (fun s1 => if s1.1 < s1.2.1 then (some (.inr (s1.1, s1.2.2))) else (bv (s1.1 - s1.2.1 : Int32) (fun x9 => bv (s1.2.1 * 6 : Int32) (fun x10 => bv (s1.2.2 + 1 : Int32) (fun x11 => some (.inl (x9, x10, x11))))))) (p0, 1, 0)) (fun (x7 : Int32 × Int32) => Option.bind (loopO (σ := Int32 × Int32 × Int32 × Int32) (ρ := Int32) (fun s12 => if x7.2 ≤ s12.2.2.2 then (some (.inr s12.2.1)) else (bv (s12.2.1 + (s12.2.2.1 * ((ir s12.1 6) + 1)) : Int32) (fun x20 => bv (s12.1 / 6 : Int32) (fun x21 => bv (s12.2.2.1 * 10 : Int32) (fun x22 => bv (s12.2.2.2 + 1 : Int32) (fun x23 => some (.inl (x21, x20, x22, x23)))))))) (x7.1, 0, 1, 0)) (fun (x18 : Int32) => some x18))
abbrev Y_X12_dishAt : Sta := (RX12, "dishAt", cX12_dishAt, 7, (some .int), 1)
set_option maxRecDepth 100000 in
set_option maxHeartbeats 8000000 in
theorem t_X12_dishAt {l : Launch} {G : Gh} {M : Mem} {p0 : Int32} {q : Int32} (h : f_X12_dishAt p0 = some q) : Ctr l G yX12_dishAt Y_X12_dishAt M [.int p0] M (some (.int q)) := by
  refine Ctr.of (Y := Y_X12_dishAt) (L := [some (.int p0), none, none, none, none, none, none]) (t := Option.bind (f_X12_dishAt p0) (fun q => some (M, some (.int q)))) (by decide) rfl rfl (nle rfl) (Lof_in 6 _ rfl) (fun X hG hl => ?_) (by rw [h]; rfl)
  subst hG
  subst hl
  unfold f_X12_dishAt
  refine s_iload_n (pc := 0) 0 dX12_dishAt_0 rfl rfl ?_
  refine s_istore_n (pc := 1) 1 dX12_dishAt_1 rfl (nlt rfl) rfl (L' := [some (.int p0), some (.int p0), none, none, none, none, none]) rfl ?_
  refine s_iconst (pc := 2) 1 dX12_dishAt_2 kc_1 ?_
  refine s_istore_n (pc := 3) 2 dX12_dishAt_3 rfl (nlt rfl) rfl (L' := [some (.int p0), some (.int p0), some (.int 1), none, none, none, none]) rfl ?_
  refine s_iconst (pc := 4) 0 dX12_dishAt_4 kc_0 ?_
  refine s_istore_n (pc := 5) 3 dX12_dishAt_5 rfl (nlt rfl) rfl (L' := [some (.int p0), some (.int p0), some (.int 1), some (.int 0), none, none, none]) rfl ?_
  refine s_drop (L' := [none, some (.int p0), some (.int 1), some (.int 0), none, none, none]) ?_ (And.intro rfl (And.intro rfl (And.intro rfl trivial)))
  refine s_loop1 M (fun s1 : Int32 × Int32 × Int32 => M) (fun s1 : Int32 × Int32 × Int32 => [none, some (.int s1.1), some (.int s1.2.1), some (.int s1.2.2), none, none, none]) (fun x7 : Int32 × Int32 => M) 26 (fun x7 : Int32 × Int32 => [none, some (.int x7.1), none, some (.int x7.2), none, none, none]) (fun x7 hx8 => ?_) (fun T3 R5 hT4 hR6 s1 hs2 => ?_) (p0, 1, 0) Le.rf
  · show S0 X _ M 26 [none, some (.int x7.1), none, some (.int x7.2), none, none, none] [] _
    refine s_iconst (pc := 26) 0 dX12_dishAt_26 kc_0 ?_
    refine s_istore (pc := 27) dX12_dishAt_27 (nlt rfl) rfl (L' := [none, some (.int x7.1), none, some (.int x7.2), some (.int 0), none, none]) rfl ?_
    refine s_iconst (pc := 29) 1 dX12_dishAt_29 kc_1 ?_
    refine s_istore (pc := 30) dX12_dishAt_30 (nlt rfl) rfl (L' := [none, some (.int x7.1), none, some (.int x7.2), some (.int 0), some (.int 1), none]) rfl ?_
    refine s_iconst (pc := 32) 0 dX12_dishAt_32 kc_0 ?_
    refine s_istore (pc := 33) dX12_dishAt_33 (nlt rfl) rfl (L' := [none, some (.int x7.1), none, some (.int x7.2), some (.int 0), some (.int 1), some (.int 0)]) rfl ?_
    refine s_drop (L' := [none, some (.int x7.1), none, some (.int x7.2), some (.int 0), some (.int 1), some (.int 0)]) ?_ (And.intro rfl (And.intro rfl (And.intro rfl (And.intro rfl (And.intro rfl trivial)))))
    refine s_loop1 M (fun s12 : Int32 × Int32 × Int32 × Int32 => M) (fun s12 : Int32 × Int32 × Int32 × Int32 => [none, some (.int s12.1), none, some (.int x7.2), some (.int s12.2.1), some (.int s12.2.2.1), some (.int s12.2.2.2)]) (fun x18 : Int32 => M) 73 (fun x18 : Int32 => [none, none, none, none, some (.int x18), none, none]) (fun x18 hx19 => ?_) (fun T14 R16 hT15 hR17 s12 hs13 => ?_) (x7.1, 0, 1, 0) Le.rf
    · show S0 X _ M 73 [none, none, none, none, some (.int x18), none, none] [] _
      refine s_iload (pc := 73) dX12_dishAt_73 rfl ?_
      exact s_iret rfl dX12_dishAt_75
    · show S0 X _ M 35 [none, some (.int s12.1), none, some (.int x7.2), some (.int s12.2.1), some (.int s12.2.2.1), some (.int s12.2.2.2)] [] _
      refine s_iload (pc := 35) dX12_dishAt_35 rfl ?_
      refine s_iload_n (pc := 37) 3 dX12_dishAt_37 rfl rfl ?_
      refine s_icge (pc := 38) 73 dX12_dishAt_38 rfl ?_ ?_
      · exact s_drop (hR17 s12.2.1 Le.rf) (And.intro rfl trivial)
      · refine s_iload (pc := 41) dX12_dishAt_41 rfl ?_
        refine s_iload (pc := 43) dX12_dishAt_43 rfl ?_
        refine s_iload_n (pc := 45) 1 dX12_dishAt_45 rfl rfl ?_
        refine s_bipush (pc := 46) 6 dX12_dishAt_46 kb_6 ?_
        refine s_irem (pc := 48) dX12_dishAt_48 (by decide) ?_
        refine s_iconst (pc := 49) 1 dX12_dishAt_49 kc_1 ?_
        refine s_iadd (pc := 50) dX12_dishAt_50 ?_
        refine s_imul (pc := 51) dX12_dishAt_51 ?_
        refine s_iadd (pc := 52) dX12_dishAt_52 ?_
        refine s_istore (pc := 53) dX12_dishAt_53 (nlt rfl) rfl (L' := [none, some (.int s12.1), none, some (.int x7.2), some (.int (s12.2.1 + (s12.2.2.1 * ((ir s12.1 6) + 1)))), some (.int s12.2.2.1), some (.int s12.2.2.2)]) rfl ?_
        refine s_bv (fun x20 : Int32 => [none, some (.int s12.1), none, some (.int x7.2), some (.int x20), some (.int s12.2.2.1), some (.int s12.2.2.2)]) (fun x20 => ?_) rfl
        refine s_iload_n (pc := 55) 1 dX12_dishAt_55 rfl rfl ?_
        refine s_bipush (pc := 56) 6 dX12_dishAt_56 kb_6 ?_
        refine s_idiv (pc := 58) dX12_dishAt_58 (by decide) ?_
        refine s_istore_n (pc := 59) 1 dX12_dishAt_59 rfl (nlt rfl) rfl (L' := [none, some (.int (s12.1 / 6)), none, some (.int x7.2), some (.int x20), some (.int s12.2.2.1), some (.int s12.2.2.2)]) rfl ?_
        refine s_bv (fun x21 : Int32 => [none, some (.int x21), none, some (.int x7.2), some (.int x20), some (.int s12.2.2.1), some (.int s12.2.2.2)]) (fun x21 => ?_) rfl
        refine s_iload (pc := 60) dX12_dishAt_60 rfl ?_
        refine s_bipush (pc := 62) 10 dX12_dishAt_62 kb_10 ?_
        refine s_imul (pc := 64) dX12_dishAt_64 ?_
        refine s_istore (pc := 65) dX12_dishAt_65 (nlt rfl) rfl (L' := [none, some (.int x21), none, some (.int x7.2), some (.int x20), some (.int (s12.2.2.1 * 10)), some (.int s12.2.2.2)]) rfl ?_
        refine s_bv (fun x22 : Int32 => [none, some (.int x21), none, some (.int x7.2), some (.int x20), some (.int x22), some (.int s12.2.2.2)]) (fun x22 => ?_) rfl
        refine s_iinc (pc := 67) dX12_dishAt_67 rfl (v := s12.2.2.2 + 1) (congrArg (fun z : Int32 => s12.2.2.2 + z) kc_1) (nlt rfl) rfl (L' := [none, some (.int x21), none, some (.int x7.2), some (.int x20), some (.int x22), some (.int (s12.2.2.2 + 1))]) rfl ?_
        refine s_bv (fun x23 : Int32 => [none, some (.int x21), none, some (.int x7.2), some (.int x20), some (.int x22), some (.int x23)]) (fun x23 => ?_) rfl
        refine s_goto (pc := 70) 35 dX12_dishAt_70 rfl ?_
        exact s_drop (hT15 (x21, x20, x22, x23) Le.rf) (And.intro rfl (And.intro rfl (And.intro rfl (And.intro rfl (And.intro rfl trivial)))))
  · show S0 X _ M 6 [none, some (.int s1.1), some (.int s1.2.1), some (.int s1.2.2), none, none, none] [] _
    refine s_iload_n (pc := 6) 1 dX12_dishAt_6 rfl rfl ?_
    refine s_iload_n (pc := 7) 2 dX12_dishAt_7 rfl rfl ?_
    refine s_iclt (pc := 8) 26 dX12_dishAt_8 rfl ?_ ?_
    · exact s_drop (hR6 (s1.1, s1.2.2) Le.rf) (And.intro rfl (And.intro rfl trivial))
    · refine s_iload_n (pc := 11) 1 dX12_dishAt_11 rfl rfl ?_
      refine s_iload_n (pc := 12) 2 dX12_dishAt_12 rfl rfl ?_
      refine s_isub (pc := 13) dX12_dishAt_13 ?_
      refine s_istore_n (pc := 14) 1 dX12_dishAt_14 rfl (nlt rfl) rfl (L' := [none, some (.int (s1.1 - s1.2.1)), some (.int s1.2.1), some (.int s1.2.2), none, none, none]) rfl ?_
      refine s_bv (fun x9 : Int32 => [none, some (.int x9), some (.int s1.2.1), some (.int s1.2.2), none, none, none]) (fun x9 => ?_) rfl
      refine s_iload_n (pc := 15) 2 dX12_dishAt_15 rfl rfl ?_
      refine s_bipush (pc := 16) 6 dX12_dishAt_16 kb_6 ?_
      refine s_imul (pc := 18) dX12_dishAt_18 ?_
      refine s_istore_n (pc := 19) 2 dX12_dishAt_19 rfl (nlt rfl) rfl (L' := [none, some (.int x9), some (.int (s1.2.1 * 6)), some (.int s1.2.2), none, none, none]) rfl ?_
      refine s_bv (fun x10 : Int32 => [none, some (.int x9), some (.int x10), some (.int s1.2.2), none, none, none]) (fun x10 => ?_) rfl
      refine s_iinc (pc := 20) dX12_dishAt_20 rfl (v := s1.2.2 + 1) (congrArg (fun z : Int32 => s1.2.2 + z) kc_1) (nlt rfl) rfl (L' := [none, some (.int x9), some (.int x10), some (.int (s1.2.2 + 1)), none, none, none]) rfl ?_
      refine s_bv (fun x11 : Int32 => [none, some (.int x9), some (.int x10), some (.int x11), none, none, none]) (fun x11 => ?_) rfl
      refine s_goto (pc := 23) 6 dX12_dishAt_23 rfl ?_
      exact s_drop (hT4 (x9, x10, x11) Le.rf) (And.intro rfl (And.intro rfl (And.intro rfl trivial)))
set_option maxRecDepth 100000 in
set_option maxHeartbeats 8000000 in
noncomputable def f_X12_draws (M : Mem) (a0 : Nat) (p1 : Int32) : Option (Mem × Int32) :=
  grd (okO M 12 a0) (bv (wI M a0 58 ((lr ((1103 * ((mI M a0 58).toInt64)) + 12345) 1000003).toInt32)) (fun M2 => grd (¬ p1 = 0) (some (M2, ir (mI M2 a0 58) p1))))
abbrev Y_X12_draws : Sta := (RX12, "draws", cX12_draws, 2, (some .int), 1)
set_option maxRecDepth 100000 in
set_option maxHeartbeats 8000000 in
theorem t_X12_draws {l : Launch} {G : Gh} {M : Mem} {a0 : Nat} {p1 : Int32} {q : Mem × Int32} (h : f_X12_draws M a0 p1 = some q) : Ctr l G yX12_draws Y_X12_draws M [.ref (gh G + a0), .int p1] q.1 (some (.int q.2)) := by
  refine Ctr.of (Y := Y_X12_draws) (L := [some (.ref (gh G + a0)), some (.int p1)]) (t := Option.bind (f_X12_draws M a0 p1) (fun q => some (q.1, some (.int q.2)))) (by decide) rfl rfl (nle rfl) (Lof_in 0 _ rfl) (fun X hG hl => ?_) (by rw [h]; rfl)
  subst hG
  subst hl
  unfold f_X12_draws
  refine s_aload_n (pc := 0) 0 dX12_draws_0 rfl rfl ?_
  refine s_ldc2 (pc := 1) dX12_draws_1 kl_X12_462 ?_
  refine s_aload_n (pc := 4) 0 dX12_draws_4 rfl rfl ?_
  refine s_grd (fun o1 => ?_)
  refine s_geti (pc := 5) F_12 58 rfl o1 dX12_draws_5 kf_X12_464 ?_
  refine s_i2l (pc := 8) dX12_draws_8 ?_
  refine s_lmul (pc := 9) dX12_draws_9 ?_
  refine s_ldc2 (pc := 10) dX12_draws_10 kl_X12_467 ?_
  refine s_ladd (pc := 13) dX12_draws_13 ?_
  refine s_ldc2 (pc := 14) dX12_draws_14 kl_X12_469 ?_
  refine s_lrem (pc := 17) dX12_draws_17 (by decide) ?_
  refine s_l2i (pc := 18) dX12_draws_18 ?_
  refine s_puti (pc := 19) F_12 58 rfl o1 rfl rfl rfl dX12_draws_19 kf_X12_464 (fun M2 hM3 => ?_)
  have h4 := le_wI hM3
  have o5 := h4.ok o1
  refine s_aload_n (pc := 22) 0 dX12_draws_22 rfl rfl ?_
  refine s_geti (pc := 23) F_12 58 rfl o5 dX12_draws_23 kf_X12_464 ?_
  refine s_iload_n (pc := 26) 1 dX12_draws_26 rfl rfl ?_
  refine s_grd (fun g6 => ?_)
  refine s_irem (pc := 27) dX12_draws_27 g6 ?_
  exact s_iret rfl dX12_draws_28
set_option maxRecDepth 100000 in
set_option maxHeartbeats 8000000 in
noncomputable def f_X12_fact (M : Mem) (a0 : Nat) (p1 : Int32) (p2 : Int32) : Option Int32 :=
  grd (okO M 12 a0) (Option.bind (mR M a0 3) (fun r2 => grd (okO M 14 r2) (grd (vp_in ((18 + (3 * p1)) + p2) (mL M r2)) (some (mI M r2 ((18 + (3 * p1)) + p2).toNatClampNeg)))))
abbrev Y_X12_fact : Sta := (RX12, "fact", cX12_fact, 3, (some .int), 1)
set_option maxRecDepth 100000 in
set_option maxHeartbeats 8000000 in
theorem t_X12_fact {l : Launch} {G : Gh} {M : Mem} {a0 : Nat} {p1 : Int32} {p2 : Int32} {q : Int32} (h : f_X12_fact M a0 p1 p2 = some q) : Ctr l G yX12_fact Y_X12_fact M [.ref (gh G + a0), .int p1, .int p2] M (some (.int q)) := by
  refine Ctr.of (Y := Y_X12_fact) (L := [some (.ref (gh G + a0)), some (.int p1), some (.int p2)]) (t := Option.bind (f_X12_fact M a0 p1 p2) (fun q => some (M, some (.int q)))) (by decide) rfl rfl (nle rfl) (Lof_in 0 _ rfl) (fun X hG hl => ?_) (by rw [h]; rfl)
  subst hG
  subst hl
  unfold f_X12_fact
  refine s_aload_n (pc := 0) 0 dX12_fact_0 rfl rfl ?_
  refine s_grd (fun o1 => ?_)
  refine s_geto (pc := 1) F_12 3 rfl o1 dX12_fact_1 kf_X12_20 ?_
  refine s_rvB (fun r2 => ?_)
  refine s_bipush (pc := 4) 18 dX12_fact_4 kb_18 ?_
  refine s_iconst (pc := 6) 3 dX12_fact_6 kc_3 ?_
  refine s_iload_n (pc := 7) 1 dX12_fact_7 rfl rfl ?_
  refine s_imul (pc := 8) dX12_fact_8 ?_
  refine s_iadd (pc := 9) dX12_fact_9 ?_
  refine s_iload_n (pc := 10) 2 dX12_fact_10 rfl rfl ?_
  refine s_iadd (pc := 11) dX12_fact_11 ?_
  refine s_grd (fun o3 => ?_)
  refine s_grd (fun i4 => ?_)
  refine s_iald (pc := 12) o3 i4 dX12_fact_12 ?_
  exact s_iret rfl dX12_fact_13
set_option maxRecDepth 100000 in
set_option maxHeartbeats 8000000 in
noncomputable def f_X12_fault (M : Mem) (a0 : Nat) : Option Int32 :=
  grd (okO M 12 a0) (some (mI M a0 18))
abbrev Y_X12_fault : Sta := (RX12, "fault", cX12_fault, 1, (some .int), 1)
set_option maxRecDepth 100000 in
set_option maxHeartbeats 8000000 in
theorem t_X12_fault {l : Launch} {G : Gh} {M : Mem} {a0 : Nat} {q : Int32} (h : f_X12_fault M a0 = some q) : Ctr l G yX12_fault Y_X12_fault M [.ref (gh G + a0)] M (some (.int q)) := by
  refine Ctr.of (Y := Y_X12_fault) (L := [some (.ref (gh G + a0))]) (t := Option.bind (f_X12_fault M a0) (fun q => some (M, some (.int q)))) (by decide) rfl rfl (nle rfl) (Lof_in 0 _ rfl) (fun X hG hl => ?_) (by rw [h]; rfl)
  subst hG
  subst hl
  unfold f_X12_fault
  refine s_aload_n (pc := 0) 0 dX12_fault_0 rfl rfl ?_
  refine s_grd (fun o1 => ?_)
  refine s_geti (pc := 1) F_12 18 rfl o1 dX12_fault_1 kf_X12_49 ?_
  exact s_iret rfl dX12_fault_4
