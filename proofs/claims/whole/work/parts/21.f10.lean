set_option maxRecDepth 100000 in
set_option maxHeartbeats 8000000 in
noncomputable def f_X12_isThing (p0 : Int32) : Option Int32 :=
  Option.bind (f_X12_lies p0 0 5) (fun q1 => grd (bl q1) (some q1))
abbrev Y_X12_isThing : Sta := (RX12, "isThing", cX12_isThing, 1, (some .boolean), 2)
set_option maxRecDepth 100000 in
set_option maxHeartbeats 8000000 in
theorem t_X12_isThing {l : Launch} {G : Gh} {M : Mem} {p0 : Int32} {q : Int32} (h : f_X12_isThing p0 = some q) : Ctr l G yX12_isThing Y_X12_isThing M [.int p0] M (some (.int q)) := by
  refine Ctr.of (Y := Y_X12_isThing) (L := [some (.int p0)]) (t := Option.bind (f_X12_isThing p0) (fun q => some (M, some (.int q)))) (by decide) rfl rfl (nle rfl) (Lof_in 0 _ rfl) (fun X hG hl => ?_) (by rw [h]; rfl)
  subst hG
  subst hl
  unfold f_X12_isThing
  refine s_iload_n (pc := 0) 0 dX12_isThing_0 rfl rfl ?_
  refine s_iconst (pc := 1) 0 dX12_isThing_1 kc_0 ?_
  refine s_iconst (pc := 2) 5 dX12_isThing_2 kc_5 ?_
  refine s_bind (fun q1 hq2 => ?_)
  have hC3 := t_X12_lies (l := xl X) (G := xG X) (M := M) hq2
  refine s_callS (pc := 3) (As := [.int p0, .int 0, .int 5]) (st := []) cl_X12_lies wt_X12_lies km_X12_123 rfl rfl (nle rfl) (nle rfl) (nle rfl) dX12_isThing_3 hC3 ?_
  show S0 X _ M 6 [some (.int p0)] [.int q1] _
  refine s_grd (fun g4 => ?_)
  exact s_zret rfl g4 dX12_isThing_6
set_option maxRecDepth 100000 in
set_option maxHeartbeats 8000000 in
noncomputable def f_X12_isValue (M : Mem) (a0 : Nat) (p1 : Int32) : Option Int32 :=
  grd (okO M 12 a0) (if (mI M a0 14) = 0 then (Option.bind (f_X12_lies p1 7 14) (fun q2 => grd (bl q2) (some q2))) else (if p1 = 10 then (some 1) else (if p1 = 11 then (some 1) else (Option.bind (f_X12_lies p1 15 18) (fun q6 => if q6 = 0 then (some 0) else (some 1))))))
abbrev Y_X12_isValue : Sta := (RX12, "isValue", cX12_isValue, 2, (some .boolean), 2)
set_option maxRecDepth 100000 in
set_option maxHeartbeats 8000000 in
theorem t_X12_isValue {l : Launch} {G : Gh} {M : Mem} {a0 : Nat} {p1 : Int32} {q : Int32} (h : f_X12_isValue M a0 p1 = some q) : Ctr l G yX12_isValue Y_X12_isValue M [.ref (gh G + a0), .int p1] M (some (.int q)) := by
  refine Ctr.of (Y := Y_X12_isValue) (L := [some (.ref (gh G + a0)), some (.int p1)]) (t := Option.bind (f_X12_isValue M a0 p1) (fun q => some (M, some (.int q)))) (by decide) rfl rfl (nle rfl) (Lof_in 0 _ rfl) (fun X hG hl => ?_) (by rw [h]; rfl)
  subst hG
  subst hl
  unfold f_X12_isValue
  refine s_aload_n (pc := 0) 0 dX12_isValue_0 rfl rfl ?_
  refine s_grd (fun o1 => ?_)
  refine s_geti (pc := 1) F_12 14 rfl o1 dX12_isValue_1 kf_X12_249 ?_
  refine s_ifeq (pc := 4) 38 dX12_isValue_4 rfl ?_ ?_
  · refine s_iload_n (pc := 38) 1 dX12_isValue_38 rfl rfl ?_
    refine s_bipush (pc := 39) 7 dX12_isValue_39 kb_7 ?_
    refine s_bipush (pc := 41) 14 dX12_isValue_41 kb_14 ?_
    refine s_bind (fun q2 hq3 => ?_)
    have hC4 := t_X12_lies (l := xl X) (G := xG X) (M := M) hq3
    refine s_callS (pc := 43) (As := [.int p1, .int 7, .int 14]) (st := []) cl_X12_lies wt_X12_lies km_X12_123 rfl rfl (nle rfl) (nle rfl) (nle rfl) dX12_isValue_43 hC4 ?_
    show S0 X _ M 46 [some (.ref (gh (xG X) + a0)), some (.int p1)] [.int q2] _
    refine s_grd (fun g5 => ?_)
    exact s_zret rfl g5 dX12_isValue_46
  · refine s_iload_n (pc := 7) 1 dX12_isValue_7 rfl rfl ?_
    refine s_bipush (pc := 8) 10 dX12_isValue_8 kb_10 ?_
    refine s_iceq (pc := 10) 30 dX12_isValue_10 rfl ?_ ?_
    · refine s_iconst (pc := 30) 1 dX12_isValue_30 kc_1 ?_
      refine s_goto (pc := 31) 46 dX12_isValue_31 rfl ?_
      exact s_zret rfl rfl dX12_isValue_46
    · refine s_iload_n (pc := 13) 1 dX12_isValue_13 rfl rfl ?_
      refine s_bipush (pc := 14) 11 dX12_isValue_14 kb_11 ?_
      refine s_iceq (pc := 16) 30 dX12_isValue_16 rfl ?_ ?_
      · refine s_iconst (pc := 30) 1 dX12_isValue_30 kc_1 ?_
        refine s_goto (pc := 31) 46 dX12_isValue_31 rfl ?_
        exact s_zret rfl rfl dX12_isValue_46
      · refine s_iload_n (pc := 19) 1 dX12_isValue_19 rfl rfl ?_
        refine s_bipush (pc := 20) 15 dX12_isValue_20 kb_15 ?_
        refine s_bipush (pc := 22) 18 dX12_isValue_22 kb_18 ?_
        refine s_bind (fun q6 hq7 => ?_)
        have hC8 := t_X12_lies (l := xl X) (G := xG X) (M := M) hq7
        refine s_callS (pc := 24) (As := [.int p1, .int 15, .int 18]) (st := []) cl_X12_lies wt_X12_lies km_X12_123 rfl rfl (nle rfl) (nle rfl) (nle rfl) dX12_isValue_24 hC8 ?_
        show S0 X _ M 27 [some (.ref (gh (xG X) + a0)), some (.int p1)] [.int q6] _
        refine s_ifeq (pc := 27) 34 dX12_isValue_27 rfl ?_ ?_
        · refine s_iconst (pc := 34) 0 dX12_isValue_34 kc_0 ?_
          refine s_goto (pc := 35) 46 dX12_isValue_35 rfl ?_
          exact s_zret rfl rfl dX12_isValue_46
        · refine s_iconst (pc := 30) 1 dX12_isValue_30 kc_1 ?_
          refine s_goto (pc := 31) 46 dX12_isValue_31 rfl ?_
          exact s_zret rfl rfl dX12_isValue_46
set_option maxRecDepth 100000 in
set_option maxHeartbeats 8000000 in
noncomputable def f_X12_makes (M : Mem) (a0 : Nat) (p1 : Int32) (p2 : Int32) (p3 : Int32) (p4 : Int32) : Option (Mem × Int32) :=
  grd (okO M 12 a0) (Option.bind (f_X12_opens M a0 p1) (fun q2 => bv (fun (s8 : Int32) => Option.bind (f_X12_lies p3 0 s8) (fun q11 => if q11 = 0 then (some (q2, (-1))) else (bv (fun (s15 : Int32) => bv (wI q2 a0 8 s15) (fun M18 => bv (fun (s23 : Int32) => bv (fun (s27 : Unit) => if s23 = (-1) then (some (M18, (-1))) else (bv (fun (s31 : Mem) => Option.bind (f_X12_closes s31 a0) (fun q35 => some (s31, q35))) (fun j30 => if p2 = 2 then (Option.bind (mR M18 a0 6) (fun r103 => grd (okO M18 14 r103) (grd (vp_in p3 (mL M18 r103)) (Option.bind (mR M18 a0 6) (fun r106 => grd (okO M18 14 r106) (grd (vp_in (p3 + 1) (mL M18 r106)) (if (mI M18 r103 p3.toNatClampNeg) = (mI M18 r106 (p3 + 1).toNatClampNeg) then (some (M18, (-1))) else (Option.bind (mR M18 a0 6) (fun r109 => Option.bind (mR M18 a0 6) (fun r110 => grd (okO M18 14 r110) (grd (vp_in (p3 + 1) (mL M18 r110)) (grd (okO M18 14 r109) (grd (vp_in p3 (mL M18 r109)) (bv (wI M18 r109 p3.toNatClampNeg (mI M18 r110 (p3 + 1).toNatClampNeg)) (fun M115 => Option.bind (mR M115 a0 6) (fun r119 => grd (okO M115 14 r119) (grd (vp_in (p3 + 1) (mL M115 r119)) (bv (wI M115 r119 (p3 + 1).toNatClampNeg s23) (fun M122 => j30 M122))))))))))))))))))) else (if p2 = 4 then (Option.bind (mR M18 a0 6) (fun r96 => grd (okO M18 14 r96) (grd (vp_in p3 (mL M18 r96)) (bv (wI M18 r96 p3.toNatClampNeg s23) (fun M99 => j30 M99))))) else (if p2 = 0 then (bv (wI M18 a0 7 ((mI M18 a0 7) - 1)) (fun M71 => Option.bind (loopO (σ := Mem × Int32) (ρ := Mem) (fun s75 => if (mI s75.1 a0 7) ≤ s75.2 then (some (.inr s75.1)) else (Option.bind (mR s75.1 a0 6) (fun r84 => Option.bind (mR s75.1 a0 6) (fun r85 => grd (okO s75.1 14 r85) (grd (vp_in (s75.2 + 1) (mL s75.1 r85)) (grd (okO s75.1 14 r84) (grd (vp_in s75.2 (mL s75.1 r84)) (bv (wI s75.1 r84 s75.2.toNatClampNeg (mI s75.1 r85 (s75.2 + 1).toNatClampNeg)) (fun M90 => bv (s75.2 + 1 : Int32) (fun x94 => some (.inl (M90, x94)))))))))))) (M71, p3)) (fun (x82 : Mem) => j30 x82))) else (bv (mI M18 a0 7 : Int32) (fun x38 => Option.bind (loopO (σ := Mem × Int32) (ρ := Mem) (fun s39 => if s39.2 ≤ p3 then (some (.inr s39.1)) else (Option.bind (mR s39.1 a0 6) (fun r48 => Option.bind (mR s39.1 a0 6) (fun r49 => grd (okO s39.1 14 r49) (grd (vp_in (s39.2 - 1) (mL s39.1 r49)) (grd (okO s39.1 14 r48) (grd (vp_in s39.2 (mL s39.1 r48)) (bv (wI s39.1 r48 s39.2.toNatClampNeg (mI s39.1 r49 (s39.2 - 1).toNatClampNeg)) (fun M54 => bv (s39.2 + (-1) : Int32) (fun x58 => some (.inl (M54, x58)))))))))))) (M18, x38)) (fun (x46 : Mem) => Option.bind (mR x46 a0 6) (fun r60 => grd (okO x46 14 r60) (grd (vp_in p3 (mL x46 r60)) (bv (wI x46 r60 p3.toNatClampNeg s23) (fun M63 => bv (wI M63 a0 7 ((mI M63 a0 7) + 1)) (fun M67 => j30 M67))))))))))))) (fun j26 => bv (fun (s127 : Unit) => if (mI M18 a0 7) = 5 then (some (M18, (-1))) else (Option.bind (mR M18 a0 3) (fun r130 => grd (okO M18 14 r130) (grd (vp_in (6 + s23) (mL M18 r130)) (if (mI M18 r130 (6 + s23).toNatClampNeg) = 0 then (some (M18, (-1))) else (j26 ())))))) (fun j126 => if p2 = 1 then (j126 ()) else (if p2 = 3 then (j126 ()) else (j26 ()))))) (fun j22 => if p2 = 4 then (Option.bind (mR M18 a0 3) (fun r133 => grd (okO M18 14 r133) (grd (vp_in (12 + (mI M18 a0 8)) (mL M18 r133)) (j22 (mI M18 r133 (12 + (mI M18 a0 8)).toNatClampNeg))))) else (j22 (mI M18 a0 8))))) (fun j14 => if p2 = 1 then (j14 p4) else (Option.bind (mR q2 a0 6) (fun r136 => grd (okO q2 14 r136) (grd (vp_in p3 (mL q2 r136)) (j14 (mI q2 r136 p3.toNatClampNeg))))))))) (fun j7 => if p2 = 1 then (j7 (mI q2 a0 7)) else (if p2 = 2 then (j7 ((mI q2 a0 7) - 2)) else (j7 ((mI q2 a0 7) - 1))))))
abbrev Y_X12_makes : Sta := (RX12, "makes", cX12_makes, 7, (some .int), 2)
set_option maxRecDepth 100000 in
set_option maxHeartbeats 8000000 in
theorem t_X12_makes {l : Launch} {G : Gh} {M : Mem} {a0 : Nat} {p1 : Int32} {p2 : Int32} {p3 : Int32} {p4 : Int32} {q : Mem × Int32} (h : f_X12_makes M a0 p1 p2 p3 p4 = some q) : Ctr l G yX12_makes Y_X12_makes M [.ref (gh G + a0), .int p1, .int p2, .int p3, .int p4] q.1 (some (.int q.2)) := by
  refine Ctr.of (Y := Y_X12_makes) (L := [some (.ref (gh G + a0)), some (.int p1), some (.int p2), some (.int p3), some (.int p4), none, none]) (t := Option.bind (f_X12_makes M a0 p1 p2 p3 p4) (fun q => some (q.1, some (.int q.2)))) (by decide) rfl rfl (nle rfl) (Lof_in 2 _ rfl) (fun X hG hl => ?_) (by rw [h]; rfl)
  subst hG
  subst hl
  unfold f_X12_makes
  refine s_aload_n (pc := 0) 0 dX12_makes_0 rfl rfl ?_
  refine s_iload_n (pc := 1) 1 dX12_makes_1 rfl rfl ?_
  refine s_grd (fun o1 => ?_)
  refine s_bind (fun q2 hq3 => ?_)
  have hC4 := t_X12_opens (l := xl X) (G := xG X) hq3
  refine s_callV (pc := 2) (As := [.int p1]) (st := []) (nlt rfl) (q := (RX12, TX12, 59)) rfl rfl o1 cl_X12_opens wi_X12_opens wl_X12_opens km_X12_145 rfl rfl (nle rfl) (nle rfl) (nle rfl) dX12_makes_2 hC4 ?_
  have h5 := hC4.1 X
  have o6 := h5.ok o1
  show S0 X _ q2 5 [some (.ref (gh (xG X) + a0)), some (.int p1), some (.int p2), some (.int p3), some (.int p4), none, none] [] _
  refine s_iload_n (pc := 5) 3 dX12_makes_5 rfl rfl ?_
  refine s_iconst (pc := 6) 0 dX12_makes_6 kc_0 ?_
  refine s_iload_n (pc := 7) 2 dX12_makes_7 rfl rfl ?_
  refine s_iconst (pc := 8) 1 dX12_makes_8 kc_1 ?_
  refine s_join q2 (fun s8 : Int32 => q2) 39 (fun s8 : Int32 => [some (.ref (gh (xG X) + a0)), none, some (.int p2), some (.int p3), some (.int p4), none, none]) (fun s8 : Int32 => [.int s8, .int 0, .int p3]) (fun s8 hs9 => ?_) (fun j7 hj10 => ?_)
  · show S0 X _ q2 39 [some (.ref (gh (xG X) + a0)), none, some (.int p2), some (.int p3), some (.int p4), none, none] [.int s8, .int 0, .int p3] _
    refine s_bind (fun q11 hq12 => ?_)
    have hC13 := t_X12_lies (l := xl X) (G := xG X) (M := q2) hq12
    refine s_callS (pc := 39) (As := [.int p3, .int 0, .int s8]) (st := []) cl_X12_lies wt_X12_lies km_X12_123 rfl rfl (nle rfl) (nle rfl) (nle rfl) dX12_makes_39 hC13 ?_
    show S0 X _ q2 42 [some (.ref (gh (xG X) + a0)), none, some (.int p2), some (.int p3), some (.int p4), none, none] [.int q11] _
    refine s_ifne (pc := 42) 47 dX12_makes_42 rfl ?_ ?_
    · refine s_aload_n (pc := 47) 0 dX12_makes_47 rfl rfl ?_
      refine s_iload_n (pc := 48) 2 dX12_makes_48 rfl rfl ?_
      refine s_iconst (pc := 49) 1 dX12_makes_49 kc_1 ?_
      refine s_join q2 (fun s15 : Int32 => q2) 64 (fun s15 : Int32 => [some (.ref (gh (xG X) + a0)), none, some (.int p2), some (.int p3), none, none, none]) (fun s15 : Int32 => [.int s15, .ref (gh (xG X) + a0)]) (fun s15 hs16 => ?_) (fun j14 hj17 => ?_)
      · show S0 X _ q2 64 [some (.ref (gh (xG X) + a0)), none, some (.int p2), some (.int p3), none, none, none] [.int s15, .ref (gh (xG X) + a0)] _
        refine s_puti (pc := 64) F_12 8 rfl o6 rfl rfl rfl dX12_makes_64 kf_X12_149 (fun M18 hM19 => ?_)
        have h20 := le_wI hM19
        have o21 := h20.ok o6
        refine s_iload_n (pc := 67) 2 dX12_makes_67 rfl rfl ?_
        refine s_iconst (pc := 68) 4 dX12_makes_68 kc_4 ?_
        refine s_join M18 (fun s23 : Int32 => M18) 91 (fun s23 : Int32 => [some (.ref (gh (xG X) + a0)), none, some (.int p2), some (.int p3), none, none, none]) (fun s23 : Int32 => [.int s23]) (fun s23 hs24 => ?_) (fun j22 hj25 => ?_)
        · show S0 X _ M18 91 [some (.ref (gh (xG X) + a0)), none, some (.int p2), some (.int p3), none, none, none] [.int s23] _
          refine s_istore (pc := 91) dX12_makes_91 (nlt rfl) rfl (L' := [some (.ref (gh (xG X) + a0)), none, some (.int p2), some (.int p3), none, some (.int s23), none]) rfl ?_
          refine s_iload_n (pc := 93) 2 dX12_makes_93 rfl rfl ?_
          refine s_iconst (pc := 94) 1 dX12_makes_94 kc_1 ?_
          refine s_join M18 (fun s27 : Unit => M18) 124 (fun s27 : Unit => [some (.ref (gh (xG X) + a0)), none, some (.int p2), some (.int p3), none, some (.int s23), none]) (fun s27 : Unit => []) (fun s27 hs28 => ?_) (fun j26 hj29 => ?_)
          · show S0 X _ M18 124 [some (.ref (gh (xG X) + a0)), none, some (.int p2), some (.int p3), none, some (.int s23), none] [] _
            refine s_iload (pc := 124) dX12_makes_124 rfl ?_
            refine s_iconst (pc := 126) (-1) dX12_makes_126 kc_m1 ?_
            refine s_icne (pc := 127) 132 dX12_makes_127 rfl ?_ ?_
            · refine s_iload_n (pc := 132) 2 dX12_makes_132 rfl rfl ?_
              refine s_iconst (pc := 133) 2 dX12_makes_133 kc_2 ?_
              refine s_join M18 (fun s31 : Mem => s31) 302 (fun s31 : Mem => [some (.ref (gh (xG X) + a0)), none, none, none, none, none, none]) (fun s31 : Mem => []) (fun s31 hs32 => ?_) (fun j30 hj33 => ?_)
              · show S0 X _ s31 302 [some (.ref (gh (xG X) + a0)), none, none, none, none, none, none] [] _
                have o34 := hs32.ok o21
                refine s_aload_n (pc := 302) 0 dX12_makes_302 rfl rfl ?_
                refine s_bind (fun q35 hq36 => ?_)
                have hC37 := t_X12_closes (l := xl X) (G := xG X) hq36
                refine s_callV (pc := 303) (As := []) (st := []) (nlt rfl) (q := (RX12, TX12, 59)) rfl rfl o34 cl_X12_closes wi_X12_closes wl_X12_closes km_X12_152 rfl rfl (nle rfl) (nle rfl) (nle rfl) dX12_makes_303 hC37 ?_
                show S0 X _ s31 306 [some (.ref (gh (xG X) + a0)), none, none, none, none, none, none] [.int q35] _
                exact s_iret rfl dX12_makes_306
              · refine s_icne (pc := 134) 183 dX12_makes_134 rfl ?_ ?_
                · refine s_iload_n (pc := 183) 2 dX12_makes_183 rfl rfl ?_
                  refine s_iconst (pc := 184) 4 dX12_makes_184 kc_4 ?_
                  refine s_icne (pc := 185) 199 dX12_makes_185 rfl ?_ ?_
                  · refine s_iload_n (pc := 199) 2 dX12_makes_199 rfl rfl ?_
                    refine s_ifne (pc := 200) 250 dX12_makes_200 rfl ?_ ?_
                    · refine s_aload_n (pc := 250) 0 dX12_makes_250 rfl rfl ?_
                      refine s_geti (pc := 251) F_12 7 rfl o21 dX12_makes_251 kf_X12_142 ?_
                      refine s_istore (pc := 254) dX12_makes_254 (nlt rfl) rfl (L' := [some (.ref (gh (xG X) + a0)), none, some (.int p2), some (.int p3), none, some (.int s23), some (.int (mI M18 a0 7))]) rfl ?_
                      refine s_bv (fun x38 : Int32 => [some (.ref (gh (xG X) + a0)), none, some (.int p2), some (.int p3), none, some (.int s23), some (.int x38)]) (fun x38 => ?_) rfl
                      refine s_drop (L' := [some (.ref (gh (xG X) + a0)), none, none, some (.int p3), none, some (.int s23), some (.int x38)]) ?_ (And.intro rfl (And.intro rfl (And.intro rfl (And.intro rfl trivial))))
                      refine s_loop1 M18 (fun s39 : Mem × Int32 => s39.1) (fun s39 : Mem × Int32 => [some (.ref (gh (xG X) + a0)), none, none, some (.int p3), none, some (.int s23), some (.int s39.2)]) (fun x46 : Mem => x46) 284 (fun x46 : Mem => [some (.ref (gh (xG X) + a0)), none, none, some (.int p3), none, some (.int s23), none]) (fun x46 hx47 => ?_) (fun T41 R43 hT42 hR44 s39 hs40 => ?_) (M18, x38) Le.rf
                      · show S0 X _ x46 284 [some (.ref (gh (xG X) + a0)), none, none, some (.int p3), none, some (.int s23), none] [] _
                        have o59 := hx47.ok o21
                        refine s_aload_n (pc := 284) 0 dX12_makes_284 rfl rfl ?_
                        refine s_geto (pc := 285) F_12 6 rfl o59 dX12_makes_285 kf_X12_30 ?_
                        refine s_rvB (fun r60 => ?_)
                        refine s_iload_n (pc := 288) 3 dX12_makes_288 rfl rfl ?_
                        refine s_iload (pc := 289) dX12_makes_289 rfl ?_
                        refine s_grd (fun o61 => ?_)
                        refine s_grd (fun i62 => ?_)
                        refine s_iast (pc := 291) o61 i62 dX12_makes_291 (fun M63 hM64 => ?_)
                        have h65 := le_wI hM64
                        have o66 := h65.ok o59
                        refine s_aload_n (pc := 292) 0 dX12_makes_292 rfl rfl ?_
                        refine s_dup (pc := 293) dX12_makes_293 rfl ?_
                        refine s_geti (pc := 294) F_12 7 rfl o66 dX12_makes_294 kf_X12_142 ?_
                        refine s_iconst (pc := 297) 1 dX12_makes_297 kc_1 ?_
                        refine s_iadd (pc := 298) dX12_makes_298 ?_
                        refine s_puti (pc := 299) F_12 7 rfl o66 rfl rfl rfl dX12_makes_299 kf_X12_142 (fun M67 hM68 => ?_)
                        have h69 := le_wI hM68
                        have o70 := h69.ok o66
                        exact s_drop (hj33 M67 (hx47.tr (h65.tr h69))) (And.intro rfl trivial)
                      · show S0 X _ s39.1 256 [some (.ref (gh (xG X) + a0)), none, none, some (.int p3), none, some (.int s23), some (.int s39.2)] [] _
                        have o45 := hs40.ok o21
                        refine s_iload (pc := 256) dX12_makes_256 rfl ?_
                        refine s_iload_n (pc := 258) 3 dX12_makes_258 rfl rfl ?_
                        refine s_icle (pc := 259) 284 dX12_makes_259 rfl ?_ ?_
                        · exact s_drop (hR44 s39.1 hs40) (And.intro rfl (And.intro rfl (And.intro rfl trivial)))
                        · refine s_aload_n (pc := 262) 0 dX12_makes_262 rfl rfl ?_
                          refine s_geto (pc := 263) F_12 6 rfl o45 dX12_makes_263 kf_X12_30 ?_
                          refine s_rvB (fun r48 => ?_)
                          refine s_iload (pc := 266) dX12_makes_266 rfl ?_
                          refine s_aload_n (pc := 268) 0 dX12_makes_268 rfl rfl ?_
                          refine s_geto (pc := 269) F_12 6 rfl o45 dX12_makes_269 kf_X12_30 ?_
                          refine s_rvB (fun r49 => ?_)
                          refine s_iload (pc := 272) dX12_makes_272 rfl ?_
                          refine s_iconst (pc := 274) 1 dX12_makes_274 kc_1 ?_
                          refine s_isub (pc := 275) dX12_makes_275 ?_
                          refine s_grd (fun o50 => ?_)
                          refine s_grd (fun i51 => ?_)
                          refine s_iald (pc := 276) o50 i51 dX12_makes_276 ?_
                          refine s_grd (fun o52 => ?_)
                          refine s_grd (fun i53 => ?_)
                          refine s_iast (pc := 277) o52 i53 dX12_makes_277 (fun M54 hM55 => ?_)
                          have h56 := le_wI hM55
                          have o57 := h56.ok o45
                          refine s_iinc (pc := 278) dX12_makes_278 rfl (v := s39.2 + (-1)) (congrArg (fun z : Int32 => s39.2 + z) kc_m1) (nlt rfl) rfl (L' := [some (.ref (gh (xG X) + a0)), none, none, some (.int p3), none, some (.int s23), some (.int (s39.2 + (-1)))]) rfl ?_
                          refine s_bv (fun x58 : Int32 => [some (.ref (gh (xG X) + a0)), none, none, some (.int p3), none, some (.int s23), some (.int x58)]) (fun x58 => ?_) rfl
                          refine s_goto (pc := 281) 256 dX12_makes_281 rfl ?_
                          exact s_drop (hT42 (M54, x58) (hs40.tr h56)) (And.intro rfl (And.intro rfl (And.intro rfl (And.intro rfl trivial))))
                    · refine s_aload_n (pc := 203) 0 dX12_makes_203 rfl rfl ?_
                      refine s_dup (pc := 204) dX12_makes_204 rfl ?_
                      refine s_geti (pc := 205) F_12 7 rfl o21 dX12_makes_205 kf_X12_142 ?_
                      refine s_iconst (pc := 208) 1 dX12_makes_208 kc_1 ?_
                      refine s_isub (pc := 209) dX12_makes_209 ?_
                      refine s_puti (pc := 210) F_12 7 rfl o21 rfl rfl rfl dX12_makes_210 kf_X12_142 (fun M71 hM72 => ?_)
                      have h73 := le_wI hM72
                      have o74 := h73.ok o21
                      refine s_iload_n (pc := 213) 3 dX12_makes_213 rfl rfl ?_
                      refine s_istore (pc := 214) dX12_makes_214 (nlt rfl) rfl (L' := [some (.ref (gh (xG X) + a0)), none, some (.int p2), some (.int p3), none, some (.int s23), some (.int p3)]) rfl ?_
                      refine s_drop (L' := [some (.ref (gh (xG X) + a0)), none, none, none, none, none, some (.int p3)]) ?_ (And.intro rfl (And.intro rfl trivial))
                      refine s_loop1 M71 (fun s75 : Mem × Int32 => s75.1) (fun s75 : Mem × Int32 => [some (.ref (gh (xG X) + a0)), none, none, none, none, none, some (.int s75.2)]) (fun x82 : Mem => x82) 247 (fun x82 : Mem => [some (.ref (gh (xG X) + a0)), none, none, none, none, none, none]) (fun x82 hx83 => ?_) (fun T77 R79 hT78 hR80 s75 hs76 => ?_) (M71, p3) Le.rf
                      · show S0 X _ x82 247 [some (.ref (gh (xG X) + a0)), none, none, none, none, none, none] [] _
                        have o95 := hx83.ok o74
                        refine s_goto (pc := 247) 302 dX12_makes_247 rfl ?_
                        exact s_drop (hj33 x82 (h73.tr hx83)) (And.intro rfl trivial)
                      · show S0 X _ s75.1 216 [some (.ref (gh (xG X) + a0)), none, none, none, none, none, some (.int s75.2)] [] _
                        have o81 := hs76.ok o74
                        refine s_iload (pc := 216) dX12_makes_216 rfl ?_
                        refine s_aload_n (pc := 218) 0 dX12_makes_218 rfl rfl ?_
                        refine s_geti (pc := 219) F_12 7 rfl o81 dX12_makes_219 kf_X12_142 ?_
                        refine s_icge (pc := 222) 247 dX12_makes_222 rfl ?_ ?_
                        · exact s_drop (hR80 s75.1 hs76) (And.intro rfl trivial)
                        · refine s_aload_n (pc := 225) 0 dX12_makes_225 rfl rfl ?_
                          refine s_geto (pc := 226) F_12 6 rfl o81 dX12_makes_226 kf_X12_30 ?_
                          refine s_rvB (fun r84 => ?_)
                          refine s_iload (pc := 229) dX12_makes_229 rfl ?_
                          refine s_aload_n (pc := 231) 0 dX12_makes_231 rfl rfl ?_
                          refine s_geto (pc := 232) F_12 6 rfl o81 dX12_makes_232 kf_X12_30 ?_
                          refine s_rvB (fun r85 => ?_)
                          refine s_iload (pc := 235) dX12_makes_235 rfl ?_
                          refine s_iconst (pc := 237) 1 dX12_makes_237 kc_1 ?_
                          refine s_iadd (pc := 238) dX12_makes_238 ?_
                          refine s_grd (fun o86 => ?_)
                          refine s_grd (fun i87 => ?_)
                          refine s_iald (pc := 239) o86 i87 dX12_makes_239 ?_
                          refine s_grd (fun o88 => ?_)
                          refine s_grd (fun i89 => ?_)
                          refine s_iast (pc := 240) o88 i89 dX12_makes_240 (fun M90 hM91 => ?_)
                          have h92 := le_wI hM91
                          have o93 := h92.ok o81
                          refine s_iinc (pc := 241) dX12_makes_241 rfl (v := s75.2 + 1) (congrArg (fun z : Int32 => s75.2 + z) kc_1) (nlt rfl) rfl (L' := [some (.ref (gh (xG X) + a0)), none, none, none, none, none, some (.int (s75.2 + 1))]) rfl ?_
                          refine s_bv (fun x94 : Int32 => [some (.ref (gh (xG X) + a0)), none, none, none, none, none, some (.int x94)]) (fun x94 => ?_) rfl
                          refine s_goto (pc := 244) 216 dX12_makes_244 rfl ?_
                          exact s_drop (hT78 (M90, x94) (hs76.tr h92)) (And.intro rfl (And.intro rfl trivial))
                  · refine s_aload_n (pc := 188) 0 dX12_makes_188 rfl rfl ?_
                    refine s_geto (pc := 189) F_12 6 rfl o21 dX12_makes_189 kf_X12_30 ?_
                    refine s_rvB (fun r96 => ?_)
                    refine s_iload_n (pc := 192) 3 dX12_makes_192 rfl rfl ?_
                    refine s_iload (pc := 193) dX12_makes_193 rfl ?_
                    refine s_grd (fun o97 => ?_)
                    refine s_grd (fun i98 => ?_)
                    refine s_iast (pc := 195) o97 i98 dX12_makes_195 (fun M99 hM100 => ?_)
                    have h101 := le_wI hM100
                    have o102 := h101.ok o21
                    refine s_goto (pc := 196) 302 dX12_makes_196 rfl ?_
                    exact s_drop (hj33 M99 h101) (And.intro rfl trivial)
                · refine s_aload_n (pc := 137) 0 dX12_makes_137 rfl rfl ?_
                  refine s_geto (pc := 138) F_12 6 rfl o21 dX12_makes_138 kf_X12_30 ?_
                  refine s_rvB (fun r103 => ?_)
                  refine s_iload_n (pc := 141) 3 dX12_makes_141 rfl rfl ?_
                  refine s_grd (fun o104 => ?_)
                  refine s_grd (fun i105 => ?_)
                  refine s_iald (pc := 142) o104 i105 dX12_makes_142 ?_
                  refine s_aload_n (pc := 143) 0 dX12_makes_143 rfl rfl ?_
                  refine s_geto (pc := 144) F_12 6 rfl o21 dX12_makes_144 kf_X12_30 ?_
                  refine s_rvB (fun r106 => ?_)
                  refine s_iload_n (pc := 147) 3 dX12_makes_147 rfl rfl ?_
                  refine s_iconst (pc := 148) 1 dX12_makes_148 kc_1 ?_
                  refine s_iadd (pc := 149) dX12_makes_149 ?_
                  refine s_grd (fun o107 => ?_)
                  refine s_grd (fun i108 => ?_)
                  refine s_iald (pc := 150) o107 i108 dX12_makes_150 ?_
                  refine s_icne (pc := 151) 156 dX12_makes_151 rfl ?_ ?_
                  · refine s_aload_n (pc := 156) 0 dX12_makes_156 rfl rfl ?_
                    refine s_geto (pc := 157) F_12 6 rfl o21 dX12_makes_157 kf_X12_30 ?_
                    refine s_rvB (fun r109 => ?_)
                    refine s_iload_n (pc := 160) 3 dX12_makes_160 rfl rfl ?_
                    refine s_aload_n (pc := 161) 0 dX12_makes_161 rfl rfl ?_
                    refine s_geto (pc := 162) F_12 6 rfl o21 dX12_makes_162 kf_X12_30 ?_
                    refine s_rvB (fun r110 => ?_)
                    refine s_iload_n (pc := 165) 3 dX12_makes_165 rfl rfl ?_
                    refine s_iconst (pc := 166) 1 dX12_makes_166 kc_1 ?_
                    refine s_iadd (pc := 167) dX12_makes_167 ?_
                    refine s_grd (fun o111 => ?_)
                    refine s_grd (fun i112 => ?_)
                    refine s_iald (pc := 168) o111 i112 dX12_makes_168 ?_
                    refine s_grd (fun o113 => ?_)
                    refine s_grd (fun i114 => ?_)
                    refine s_iast (pc := 169) o113 i114 dX12_makes_169 (fun M115 hM116 => ?_)
                    have h117 := le_wI hM116
                    have o118 := h117.ok o21
                    refine s_aload_n (pc := 170) 0 dX12_makes_170 rfl rfl ?_
                    refine s_geto (pc := 171) F_12 6 rfl o118 dX12_makes_171 kf_X12_30 ?_
                    refine s_rvB (fun r119 => ?_)
                    refine s_iload_n (pc := 174) 3 dX12_makes_174 rfl rfl ?_
                    refine s_iconst (pc := 175) 1 dX12_makes_175 kc_1 ?_
                    refine s_iadd (pc := 176) dX12_makes_176 ?_
                    refine s_iload (pc := 177) dX12_makes_177 rfl ?_
                    refine s_grd (fun o120 => ?_)
                    refine s_grd (fun i121 => ?_)
                    refine s_iast (pc := 179) o120 i121 dX12_makes_179 (fun M122 hM123 => ?_)
                    have h124 := le_wI hM123
                    have o125 := h124.ok o118
                    refine s_goto (pc := 180) 302 dX12_makes_180 rfl ?_
                    exact s_drop (hj33 M122 (h117.tr h124)) (And.intro rfl trivial)
                  · refine s_iconst (pc := 154) (-1) dX12_makes_154 kc_m1 ?_
                    exact s_iret rfl dX12_makes_155
            · refine s_iconst (pc := 130) (-1) dX12_makes_130 kc_m1 ?_
              exact s_iret rfl dX12_makes_131
          · refine s_join M18 (fun s127 : Unit => M18) 103 (fun s127 : Unit => [some (.ref (gh (xG X) + a0)), none, some (.int p2), some (.int p3), none, some (.int s23), none]) (fun s127 : Unit => []) (fun s127 hs128 => ?_) (fun j126 hj129 => ?_)
            · show S0 X _ M18 103 [some (.ref (gh (xG X) + a0)), none, some (.int p2), some (.int p3), none, some (.int s23), none] [] _
              refine s_aload_n (pc := 103) 0 dX12_makes_103 rfl rfl ?_
              refine s_geti (pc := 104) F_12 7 rfl o21 dX12_makes_104 kf_X12_142 ?_
              refine s_iconst (pc := 107) 5 dX12_makes_107 kc_5 ?_
              refine s_iceq (pc := 108) 130 dX12_makes_108 rfl ?_ ?_
              · refine s_iconst (pc := 130) (-1) dX12_makes_130 kc_m1 ?_
                exact s_iret rfl dX12_makes_131
              · refine s_aload_n (pc := 111) 0 dX12_makes_111 rfl rfl ?_
                refine s_geto (pc := 112) F_12 3 rfl o21 dX12_makes_112 kf_X12_20 ?_
                refine s_rvB (fun r130 => ?_)
                refine s_bipush (pc := 115) 6 dX12_makes_115 kb_6 ?_
                refine s_iload (pc := 117) dX12_makes_117 rfl ?_
                refine s_iadd (pc := 119) dX12_makes_119 ?_
                refine s_grd (fun o131 => ?_)
                refine s_grd (fun i132 => ?_)
                refine s_iald (pc := 120) o131 i132 dX12_makes_120 ?_
                refine s_ifeq (pc := 121) 130 dX12_makes_121 rfl ?_ ?_
                · refine s_iconst (pc := 130) (-1) dX12_makes_130 kc_m1 ?_
                  exact s_iret rfl dX12_makes_131
                · exact s_drop (hj29 () Le.rf) (And.intro rfl (And.intro rfl (And.intro rfl (And.intro rfl trivial))))
            · refine s_iceq (pc := 95) 103 dX12_makes_95 rfl ?_ ?_
              · exact s_drop (hj129 () Le.rf) (And.intro rfl (And.intro rfl (And.intro rfl (And.intro rfl trivial))))
              · refine s_iload_n (pc := 98) 2 dX12_makes_98 rfl rfl ?_
                refine s_iconst (pc := 99) 3 dX12_makes_99 kc_3 ?_
                refine s_icne (pc := 100) 124 dX12_makes_100 rfl ?_ ?_
                · exact s_drop (hj29 () Le.rf) (And.intro rfl (And.intro rfl (And.intro rfl (And.intro rfl trivial))))
                · exact s_drop (hj129 () Le.rf) (And.intro rfl (And.intro rfl (And.intro rfl (And.intro rfl trivial))))
        · refine s_icne (pc := 69) 87 dX12_makes_69 rfl ?_ ?_
          · refine s_aload_n (pc := 87) 0 dX12_makes_87 rfl rfl ?_
            refine s_geti (pc := 88) F_12 8 rfl o21 dX12_makes_88 kf_X12_149 ?_
            exact s_drop (hj25 (mI M18 a0 8) Le.rf) (And.intro rfl (And.intro rfl (And.intro rfl trivial)))
          · refine s_aload_n (pc := 72) 0 dX12_makes_72 rfl rfl ?_
            refine s_geto (pc := 73) F_12 3 rfl o21 dX12_makes_73 kf_X12_20 ?_
            refine s_rvB (fun r133 => ?_)
            refine s_bipush (pc := 76) 12 dX12_makes_76 kb_12 ?_
            refine s_aload_n (pc := 78) 0 dX12_makes_78 rfl rfl ?_
            refine s_geti (pc := 79) F_12 8 rfl o21 dX12_makes_79 kf_X12_149 ?_
            refine s_iadd (pc := 82) dX12_makes_82 ?_
            refine s_grd (fun o134 => ?_)
            refine s_grd (fun i135 => ?_)
            refine s_iald (pc := 83) o134 i135 dX12_makes_83 ?_
            refine s_goto (pc := 84) 91 dX12_makes_84 rfl ?_
            exact s_drop (hj25 (mI M18 r133 (12 + (mI M18 a0 8)).toNatClampNeg) Le.rf) (And.intro rfl (And.intro rfl (And.intro rfl trivial)))
      · refine s_icne (pc := 50) 58 dX12_makes_50 rfl ?_ ?_
        · refine s_aload_n (pc := 58) 0 dX12_makes_58 rfl rfl ?_
          refine s_geto (pc := 59) F_12 6 rfl o6 dX12_makes_59 kf_X12_30 ?_
          refine s_rvB (fun r136 => ?_)
          refine s_iload_n (pc := 62) 3 dX12_makes_62 rfl rfl ?_
          refine s_grd (fun o137 => ?_)
          refine s_grd (fun i138 => ?_)
          refine s_iald (pc := 63) o137 i138 dX12_makes_63 ?_
          exact s_drop (hj17 (mI q2 r136 p3.toNatClampNeg) Le.rf) (And.intro rfl (And.intro rfl (And.intro rfl trivial)))
        · refine s_iload (pc := 53) dX12_makes_53 rfl ?_
          refine s_goto (pc := 55) 64 dX12_makes_55 rfl ?_
          exact s_drop (hj17 p4 Le.rf) (And.intro rfl (And.intro rfl (And.intro rfl trivial)))
    · refine s_iconst (pc := 45) (-1) dX12_makes_45 kc_m1 ?_
      exact s_iret rfl dX12_makes_46
  · refine s_icne (pc := 9) 19 dX12_makes_9 rfl ?_ ?_
    · refine s_iload_n (pc := 19) 2 dX12_makes_19 rfl rfl ?_
      refine s_iconst (pc := 20) 2 dX12_makes_20 kc_2 ?_
      refine s_icne (pc := 21) 33 dX12_makes_21 rfl ?_ ?_
      · refine s_aload_n (pc := 33) 0 dX12_makes_33 rfl rfl ?_
        refine s_geti (pc := 34) F_12 7 rfl o6 dX12_makes_34 kf_X12_142 ?_
        refine s_iconst (pc := 37) 1 dX12_makes_37 kc_1 ?_
        refine s_isub (pc := 38) dX12_makes_38 ?_
        exact s_drop (hj10 ((mI q2 a0 7) - 1) Le.rf) (And.intro rfl (And.intro rfl (And.intro rfl (And.intro rfl trivial))))
      · refine s_aload_n (pc := 24) 0 dX12_makes_24 rfl rfl ?_
        refine s_geti (pc := 25) F_12 7 rfl o6 dX12_makes_25 kf_X12_142 ?_
        refine s_iconst (pc := 28) 2 dX12_makes_28 kc_2 ?_
        refine s_isub (pc := 29) dX12_makes_29 ?_
        refine s_goto (pc := 30) 39 dX12_makes_30 rfl ?_
        exact s_drop (hj10 ((mI q2 a0 7) - 2) Le.rf) (And.intro rfl (And.intro rfl (And.intro rfl (And.intro rfl trivial))))
    · refine s_aload_n (pc := 12) 0 dX12_makes_12 rfl rfl ?_
      refine s_geti (pc := 13) F_12 7 rfl o6 dX12_makes_13 kf_X12_142 ?_
      refine s_goto (pc := 16) 39 dX12_makes_16 rfl ?_
      exact s_drop (hj10 (mI q2 a0 7) Le.rf) (And.intro rfl (And.intro rfl (And.intro rfl (And.intro rfl trivial))))
set_option maxRecDepth 100000 in
set_option maxHeartbeats 8000000 in
noncomputable def f_X12_passes0 (M : Mem) (a0 : Nat) (p1 : Int32) : Option (Mem × Int32) :=
  grd (okO M 12 a0) (Option.bind (f_X12_codeAt M a0 (mI M a0 26)) (fun q2 => bv (fun (s6 : Int32) => if s6 = 0 then (grd (bl s6) (some (M, s6))) else (bv (wI M a0 26 ((mI M a0 26) + 1)) (fun M10 => grd (bl s6) (some (M10, s6))))) (fun j5 => if q2 = p1 then (j5 1) else (j5 0))))
abbrev Y_X12_passes0 : Sta := (RX12, "passes0", cX12_passes0, 3, (some .boolean), 2)
set_option maxRecDepth 100000 in
set_option maxHeartbeats 8000000 in
theorem t_X12_passes0 {l : Launch} {G : Gh} {M : Mem} {a0 : Nat} {p1 : Int32} {q : Mem × Int32} (h : f_X12_passes0 M a0 p1 = some q) : Ctr l G yX12_passes0 Y_X12_passes0 M [.ref (gh G + a0), .int p1] q.1 (some (.int q.2)) := by
  refine Ctr.of (Y := Y_X12_passes0) (L := [some (.ref (gh G + a0)), some (.int p1), none]) (t := Option.bind (f_X12_passes0 M a0 p1) (fun q => some (q.1, some (.int q.2)))) (by decide) rfl rfl (nle rfl) (Lof_in 1 _ rfl) (fun X hG hl => ?_) (by rw [h]; rfl)
  subst hG
  subst hl
  unfold f_X12_passes0
  refine s_aload_n (pc := 0) 0 dX12_passes0_0 rfl rfl ?_
  refine s_aload_n (pc := 1) 0 dX12_passes0_1 rfl rfl ?_
  refine s_grd (fun o1 => ?_)
  refine s_geti (pc := 2) F_12 26 rfl o1 dX12_passes0_2 kf_X12_309 ?_
  refine s_bind (fun q2 hq3 => ?_)
  have hC4 := t_X12_codeAt (l := xl X) (G := xG X) hq3
  refine s_callV (pc := 5) (As := [.int (mI M a0 26)]) (st := []) (nlt rfl) (q := (RX12, TX12, 59)) rfl rfl o1 cl_X12_codeAt wi_X12_codeAt wl_X12_codeAt km_X12_312 rfl rfl (nle rfl) (nle rfl) (nle rfl) dX12_passes0_5 hC4 ?_
  show S0 X _ M 8 [some (.ref (gh (xG X) + a0)), some (.int p1), none] [.int q2] _
  refine s_iload_n (pc := 8) 1 dX12_passes0_8 rfl rfl ?_
  refine s_join M (fun s6 : Int32 => M) 17 (fun s6 : Int32 => [some (.ref (gh (xG X) + a0)), none, none]) (fun s6 : Int32 => [.int s6]) (fun s6 hs7 => ?_) (fun j5 hj8 => ?_)
  · show S0 X _ M 17 [some (.ref (gh (xG X) + a0)), none, none] [.int s6] _
    refine s_istore_n (pc := 17) 2 dX12_passes0_17 rfl (nlt rfl) rfl (L' := [some (.ref (gh (xG X) + a0)), none, some (.int s6)]) rfl ?_
    refine s_iload_n (pc := 18) 2 dX12_passes0_18 rfl rfl ?_
    refine s_ifeq (pc := 19) 32 dX12_passes0_19 rfl ?_ ?_
    · refine s_iload_n (pc := 32) 2 dX12_passes0_32 rfl rfl ?_
      refine s_grd (fun g9 => ?_)
      exact s_zret rfl g9 dX12_passes0_33
    · refine s_aload_n (pc := 22) 0 dX12_passes0_22 rfl rfl ?_
      refine s_dup (pc := 23) dX12_passes0_23 rfl ?_
      refine s_geti (pc := 24) F_12 26 rfl o1 dX12_passes0_24 kf_X12_309 ?_
      refine s_iconst (pc := 27) 1 dX12_passes0_27 kc_1 ?_
      refine s_iadd (pc := 28) dX12_passes0_28 ?_
      refine s_puti (pc := 29) F_12 26 rfl o1 rfl rfl rfl dX12_passes0_29 kf_X12_309 (fun M10 hM11 => ?_)
      have h12 := le_wI hM11
      have o13 := h12.ok o1
      refine s_iload_n (pc := 32) 2 dX12_passes0_32 rfl rfl ?_
      refine s_grd (fun g14 => ?_)
      exact s_zret rfl g14 dX12_passes0_33
  · refine s_icne (pc := 9) 16 dX12_passes0_9 rfl ?_ ?_
    · refine s_iconst (pc := 16) 0 dX12_passes0_16 kc_0 ?_
      exact s_drop (hj8 0 Le.rf) (And.intro rfl trivial)
    · refine s_iconst (pc := 12) 1 dX12_passes0_12 kc_1 ?_
      refine s_goto (pc := 13) 17 dX12_passes0_13 rfl ?_
      exact s_drop (hj8 1 Le.rf) (And.intro rfl trivial)
set_option maxRecDepth 100000 in
set_option maxHeartbeats 8000000 in
noncomputable def f_X12_row (M : Mem) (a0 : Nat) : Option (Mem × Int32) :=
  grd (okO M 12 a0) (bv (mI M a0 17 : Int32) (fun x2 => bv (wI M a0 17 0) (fun M3 => if x2 = 0 then (Option.bind (f_X12_refuses M3 a0 (-6)) (fun q102 => some (q102.1, q102.2))) else (bv (wI M3 a0 12 0) (fun M7 => Option.bind (loopO (σ := Mem × Int32 × Int32) (ρ := Mem × Int32) (fun s11 => if x2 ≤ s11.2.2 then (some (.inr (s11.1, s11.2.1))) else (Option.bind (loopO (σ := Int32 × Int32 × Int32) (ρ := Int32 × Int32 × Int32) (fun s20 => if x2 ≤ s20.1 then (some (.inr (s20.1, s20.2.1, s20.2.2))) else (Option.bind (mR s11.1 a0 15) (fun r28 => grd (okO s11.1 13 r28) (grd (vp_in s20.1 (mL s11.1 r28)) (if (mI s11.1 r28 s20.1.toNatClampNeg) = 0 then (some (.inr (s20.1, s20.2.1, s20.2.2))) else (bv (fun (s32 : Int32) => bv (fun (s36 : Int32) => bv (s20.1 + 1 : Int32) (fun x39 => some (.inl (x39, s32, s36)))) (fun j35 => if s32 = 0 then (j35 0) else (Option.bind (mR s11.1 a0 15) (fun r40 => grd (okO s11.1 13 r40) (grd (vp_in s20.1 (mL s11.1 r40)) (j35 ((10 * s20.2.2) + (mI s11.1 r40 s20.1.toNatClampNeg)))))))) (fun j31 => bv (fun (s44 : Unit) => j31 0) (fun j43 => if s20.2.1 = 0 then (j43 ()) else (Option.bind (mR s11.1 a0 15) (fun r47 => grd (okO s11.1 13 r47) (grd (vp_in s20.1 (mL s11.1 r47)) (Option.bind (f_X12_lies (mI s11.1 r47 s20.1.toNatClampNeg) 1 6) (fun q50 => if q50 = 0 then (j43 ()) else (if 5 ≤ (s20.1 - s11.2.2) then (j43 ()) else (j31 1))))))))))))))) (s11.2.2, 1, 0)) (fun (x26 : Int32 × Int32 × Int32) => bv (fun (s54 : Mem × Int32) => bv (x26.1 + 1 : Int32) (fun x58 => some (.inl (s54.1, s54.2, x58)))) (fun j53 => if x26.1 ≤ s11.2.2 then (j53 (s11.1, s11.2.1)) else (bv (fun (s60 : Int32) => bv (fun (s64 : Mem) => bv (fun (s69 : Int32) => bv (s11.2.1 + s69 : Int32) (fun x72 => bv (fun (s74 : Int32) => bv (wI s64 a0 12 ((mI s64 a0 12) + s74)) (fun M77 => j53 (M77, x72))) (fun j73 => if s60 = 0 then (j73 1) else (j73 0)))) (fun j68 => if s60 = 0 then (j68 0) else (j68 1))) (fun j63 => if s60 = 0 then (j63 s11.1) else (Option.bind (mR s11.1 a0 3) (fun r81 => grd (okO s11.1 14 r81) (grd (vp_in 54 (mL s11.1 r81)) (Option.bind (f_X12_adds s11.1 a0 (-1) (mI s11.1 r81 (54 : Int32).toNatClampNeg) x26.2.2) (fun q84 => j63 q84))))))) (fun j59 => bv (fun (s90 : Unit) => j59 0) (fun j89 => if x26.2.1 = 0 then (j89 ()) else (Option.bind (mR s11.1 a0 3) (fun r93 => grd (okO s11.1 14 r93) (grd (vp_in 56 (mL s11.1 r93)) (if 12 ≤ (mI s11.1 r93 (56 : Int32).toNatClampNeg) then (j89 ()) else (j59 1)))))))))))) (M7, 0, 0)) (fun (x18 : Mem × Int32) => Option.bind (f_X12_good x18.1 a0 x18.2) (fun q97 => some (q97.1, q97.2))))))))
abbrev Y_X12_row : Sta := (RX12, "row", cX12_row, 7, (some .int), 2)
set_option maxRecDepth 100000 in
set_option maxHeartbeats 8000000 in
theorem t_X12_row {l : Launch} {G : Gh} {M : Mem} {a0 : Nat} {q : Mem × Int32} (h : f_X12_row M a0 = some q) : Ctr l G yX12_row Y_X12_row M [.ref (gh G + a0)] q.1 (some (.int q.2)) := by
  refine Ctr.of (Y := Y_X12_row) (L := [some (.ref (gh G + a0)), none, none, none, none, none, none]) (t := Option.bind (f_X12_row M a0) (fun q => some (q.1, some (.int q.2)))) (by decide) rfl rfl (nle rfl) (Lof_in 6 _ rfl) (fun X hG hl => ?_) (by rw [h]; rfl)
  subst hG
  subst hl
  unfold f_X12_row
  refine s_aload_n (pc := 0) 0 dX12_row_0 rfl rfl ?_
  refine s_grd (fun o1 => ?_)
  refine s_geti (pc := 1) F_12 17 rfl o1 dX12_row_1 kf_X12_211 ?_
  refine s_istore_n (pc := 4) 1 dX12_row_4 rfl (nlt rfl) rfl (L' := [some (.ref (gh (xG X) + a0)), some (.int (mI M a0 17)), none, none, none, none, none]) rfl ?_
  refine s_bv (fun x2 : Int32 => [some (.ref (gh (xG X) + a0)), some (.int x2), none, none, none, none, none]) (fun x2 => ?_) rfl
  refine s_aload_n (pc := 5) 0 dX12_row_5 rfl rfl ?_
  refine s_iconst (pc := 6) 0 dX12_row_6 kc_0 ?_
  refine s_puti (pc := 7) F_12 17 rfl o1 rfl rfl rfl dX12_row_7 kf_X12_211 (fun M3 hM4 => ?_)
  have h5 := le_wI hM4
  have o6 := h5.ok o1
  refine s_iload_n (pc := 10) 1 dX12_row_10 rfl rfl ?_
  refine s_ifne (pc := 11) 21 dX12_row_11 rfl ?_ ?_
  · refine s_iconst (pc := 21) 0 dX12_row_21 kc_0 ?_
    refine s_istore_n (pc := 22) 2 dX12_row_22 rfl (nlt rfl) rfl (L' := [some (.ref (gh (xG X) + a0)), some (.int x2), some (.int 0), none, none, none, none]) rfl ?_
    refine s_aload_n (pc := 23) 0 dX12_row_23 rfl rfl ?_
    refine s_iconst (pc := 24) 0 dX12_row_24 kc_0 ?_
    refine s_puti (pc := 25) F_12 12 rfl o6 rfl rfl rfl dX12_row_25 kf_X12_214 (fun M7 hM8 => ?_)
    have h9 := le_wI hM8
    have o10 := h9.ok o6
    refine s_iconst (pc := 28) 0 dX12_row_28 kc_0 ?_
    refine s_istore_n (pc := 29) 3 dX12_row_29 rfl (nlt rfl) rfl (L' := [some (.ref (gh (xG X) + a0)), some (.int x2), some (.int 0), some (.int 0), none, none, none]) rfl ?_
    refine s_drop (L' := [some (.ref (gh (xG X) + a0)), some (.int x2), some (.int 0), some (.int 0), none, none, none]) ?_ (And.intro rfl (And.intro rfl (And.intro rfl (And.intro rfl trivial))))
    refine s_loop1 M7 (fun s11 : Mem × Int32 × Int32 => s11.1) (fun s11 : Mem × Int32 × Int32 => [some (.ref (gh (xG X) + a0)), some (.int x2), some (.int s11.2.1), some (.int s11.2.2), none, none, none]) (fun x18 : Mem × Int32 => x18.1) 215 (fun x18 : Mem × Int32 => [some (.ref (gh (xG X) + a0)), none, some (.int x18.2), none, none, none, none]) (fun x18 hx19 => ?_) (fun T13 R15 hT14 hR16 s11 hs12 => ?_) (M7, 0, 0) Le.rf
    · show S0 X _ x18.1 215 [some (.ref (gh (xG X) + a0)), none, some (.int x18.2), none, none, none, none] [] _
      have o96 := hx19.ok o10
      refine s_aload_n (pc := 215) 0 dX12_row_215 rfl rfl ?_
      refine s_iload_n (pc := 216) 2 dX12_row_216 rfl rfl ?_
      refine s_bind (fun q97 hq98 => ?_)
      have hC99 := t_X12_good (l := xl X) (G := xG X) hq98
      refine s_callV (pc := 217) (As := [.int x18.2]) (st := []) (nlt rfl) (q := (RX12, TX12, 59)) rfl rfl o96 cl_X12_good wi_X12_good wl_X12_good km_X12_131 rfl rfl (nle rfl) (nle rfl) (nle rfl) dX12_row_217 hC99 ?_
      have h100 := hC99.1 X
      have o101 := h100.ok o96
      show S0 X _ q97.1 220 [some (.ref (gh (xG X) + a0)), none, some (.int x18.2), none, none, none, none] [.int q97.2] _
      exact s_iret rfl dX12_row_220
    · show S0 X _ s11.1 30 [some (.ref (gh (xG X) + a0)), some (.int x2), some (.int s11.2.1), some (.int s11.2.2), none, none, none] [] _
      have o17 := hs12.ok o10
      refine s_iload_n (pc := 30) 3 dX12_row_30 rfl rfl ?_
      refine s_iload_n (pc := 31) 1 dX12_row_31 rfl rfl ?_
      refine s_icge (pc := 32) 215 dX12_row_32 rfl ?_ ?_
      · exact s_drop (hR16 (s11.1, s11.2.1) hs12) (And.intro rfl (And.intro rfl trivial))
      · refine s_iload_n (pc := 35) 3 dX12_row_35 rfl rfl ?_
        refine s_istore (pc := 36) dX12_row_36 (nlt rfl) rfl (L' := [some (.ref (gh (xG X) + a0)), some (.int x2), some (.int s11.2.1), some (.int s11.2.2), some (.int s11.2.2), none, none]) rfl ?_
        refine s_iconst (pc := 38) 1 dX12_row_38 kc_1 ?_
        refine s_istore (pc := 39) dX12_row_39 (nlt rfl) rfl (L' := [some (.ref (gh (xG X) + a0)), some (.int x2), some (.int s11.2.1), some (.int s11.2.2), some (.int s11.2.2), some (.int 1), none]) rfl ?_
        refine s_iconst (pc := 41) 0 dX12_row_41 kc_0 ?_
        refine s_istore (pc := 42) dX12_row_42 (nlt rfl) rfl (L' := [some (.ref (gh (xG X) + a0)), some (.int x2), some (.int s11.2.1), some (.int s11.2.2), some (.int s11.2.2), some (.int 1), some (.int 0)]) rfl ?_
        refine s_drop (L' := [some (.ref (gh (xG X) + a0)), some (.int x2), some (.int s11.2.1), some (.int s11.2.2), some (.int s11.2.2), some (.int 1), some (.int 0)]) ?_ (And.intro rfl (And.intro rfl (And.intro rfl (And.intro rfl (And.intro rfl (And.intro rfl (And.intro rfl trivial)))))))
        refine s_loop1 s11.1 (fun s20 : Int32 × Int32 × Int32 => s11.1) (fun s20 : Int32 × Int32 × Int32 => [some (.ref (gh (xG X) + a0)), some (.int x2), some (.int s11.2.1), some (.int s11.2.2), some (.int s20.1), some (.int s20.2.1), some (.int s20.2.2)]) (fun x26 : Int32 × Int32 × Int32 => s11.1) 126 (fun x26 : Int32 × Int32 × Int32 => [some (.ref (gh (xG X) + a0)), some (.int x2), some (.int s11.2.1), some (.int s11.2.2), some (.int x26.1), some (.int x26.2.1), some (.int x26.2.2)]) (fun x26 hx27 => ?_) (fun T22 R24 hT23 hR25 s20 hs21 => ?_) (s11.2.2, 1, 0) Le.rf
        · show S0 X _ s11.1 126 [some (.ref (gh (xG X) + a0)), some (.int x2), some (.int s11.2.1), some (.int s11.2.2), some (.int x26.1), some (.int x26.2.1), some (.int x26.2.2)] [] _
          refine s_iload (pc := 126) dX12_row_126 rfl ?_
          refine s_iload_n (pc := 128) 3 dX12_row_128 rfl rfl ?_
          refine s_join s11.1 (fun s54 : Mem × Int32 => s54.1) 207 (fun s54 : Mem × Int32 => [some (.ref (gh (xG X) + a0)), some (.int x2), some (.int s54.2), none, some (.int x26.1), none, none]) (fun s54 : Mem × Int32 => []) (fun s54 hs55 => ?_) (fun j53 hj56 => ?_)
          · show S0 X _ s54.1 207 [some (.ref (gh (xG X) + a0)), some (.int x2), some (.int s54.2), none, some (.int x26.1), none, none] [] _
            have o57 := hs55.ok o17
            refine s_iload (pc := 207) dX12_row_207 rfl ?_
            refine s_iconst (pc := 209) 1 dX12_row_209 kc_1 ?_
            refine s_iadd (pc := 210) dX12_row_210 ?_
            refine s_istore_n (pc := 211) 3 dX12_row_211 rfl (nlt rfl) rfl (L' := [some (.ref (gh (xG X) + a0)), some (.int x2), some (.int s54.2), some (.int (x26.1 + 1)), some (.int x26.1), none, none]) rfl ?_
            refine s_bv (fun x58 : Int32 => [some (.ref (gh (xG X) + a0)), some (.int x2), some (.int s54.2), some (.int x58), some (.int x26.1), none, none]) (fun x58 => ?_) rfl
            refine s_goto (pc := 212) 30 dX12_row_212 rfl ?_
            exact s_drop (hT14 (s54.1, s54.2, x58) (hs12.tr hs55)) (And.intro rfl (And.intro rfl (And.intro rfl (And.intro rfl trivial))))
          · refine s_icle (pc := 129) 207 dX12_row_129 rfl ?_ ?_
            · exact s_drop (hj56 (s11.1, s11.2.1) Le.rf) (And.intro rfl (And.intro rfl (And.intro rfl (And.intro rfl trivial))))
            · refine s_iload (pc := 132) dX12_row_132 rfl ?_
              refine s_join s11.1 (fun s60 : Int32 => s11.1) 154 (fun s60 : Int32 => [some (.ref (gh (xG X) + a0)), some (.int x2), some (.int s11.2.1), none, some (.int x26.1), none, some (.int x26.2.2)]) (fun s60 : Int32 => [.int s60]) (fun s60 hs61 => ?_) (fun j59 hj62 => ?_)
              · show S0 X _ s11.1 154 [some (.ref (gh (xG X) + a0)), some (.int x2), some (.int s11.2.1), none, some (.int x26.1), none, some (.int x26.2.2)] [.int s60] _
                refine s_istore (pc := 154) dX12_row_154 (nlt rfl) rfl (L' := [some (.ref (gh (xG X) + a0)), some (.int x2), some (.int s11.2.1), none, some (.int x26.1), some (.int s60), some (.int x26.2.2)]) rfl ?_
                refine s_iload (pc := 156) dX12_row_156 rfl ?_
                refine s_join s11.1 (fun s64 : Mem => s64) 175 (fun s64 : Mem => [some (.ref (gh (xG X) + a0)), some (.int x2), some (.int s11.2.1), none, some (.int x26.1), some (.int s60), none]) (fun s64 : Mem => []) (fun s64 hs65 => ?_) (fun j63 hj66 => ?_)
                · show S0 X _ s64 175 [some (.ref (gh (xG X) + a0)), some (.int x2), some (.int s11.2.1), none, some (.int x26.1), some (.int s60), none] [] _
                  have o67 := hs65.ok o17
                  refine s_iload_n (pc := 175) 2 dX12_row_175 rfl rfl ?_
                  refine s_iload (pc := 176) dX12_row_176 rfl ?_
                  refine s_join s64 (fun s69 : Int32 => s64) 186 (fun s69 : Int32 => [some (.ref (gh (xG X) + a0)), some (.int x2), none, none, some (.int x26.1), some (.int s60), none]) (fun s69 : Int32 => [.int s69, .int s11.2.1]) (fun s69 hs70 => ?_) (fun j68 hj71 => ?_)
                  · show S0 X _ s64 186 [some (.ref (gh (xG X) + a0)), some (.int x2), none, none, some (.int x26.1), some (.int s60), none] [.int s69, .int s11.2.1] _
                    refine s_iadd (pc := 186) dX12_row_186 ?_
                    refine s_istore_n (pc := 187) 2 dX12_row_187 rfl (nlt rfl) rfl (L' := [some (.ref (gh (xG X) + a0)), some (.int x2), some (.int (s11.2.1 + s69)), none, some (.int x26.1), some (.int s60), none]) rfl ?_
                    refine s_bv (fun x72 : Int32 => [some (.ref (gh (xG X) + a0)), some (.int x2), some (.int x72), none, some (.int x26.1), some (.int s60), none]) (fun x72 => ?_) rfl
                    refine s_aload_n (pc := 188) 0 dX12_row_188 rfl rfl ?_
                    refine s_dup (pc := 189) dX12_row_189 rfl ?_
                    refine s_geti (pc := 190) F_12 12 rfl o67 dX12_row_190 kf_X12_214 ?_
                    refine s_iload (pc := 193) dX12_row_193 rfl ?_
                    refine s_join s64 (fun s74 : Int32 => s64) 203 (fun s74 : Int32 => [some (.ref (gh (xG X) + a0)), some (.int x2), some (.int x72), none, some (.int x26.1), none, none]) (fun s74 : Int32 => [.int s74, .int (mI s64 a0 12), .ref (gh (xG X) + a0)]) (fun s74 hs75 => ?_) (fun j73 hj76 => ?_)
                    · show S0 X _ s64 203 [some (.ref (gh (xG X) + a0)), some (.int x2), some (.int x72), none, some (.int x26.1), none, none] [.int s74, .int (mI s64 a0 12), .ref (gh (xG X) + a0)] _
                      refine s_iadd (pc := 203) dX12_row_203 ?_
                      refine s_puti (pc := 204) F_12 12 rfl o67 rfl rfl rfl dX12_row_204 kf_X12_214 (fun M77 hM78 => ?_)
                      have h79 := le_wI hM78
                      have o80 := h79.ok o67
                      exact s_drop (hj56 (M77, x72) (hs65.tr h79)) (And.intro rfl (And.intro rfl (And.intro rfl (And.intro rfl trivial))))
                    · refine s_ifeq (pc := 195) 202 dX12_row_195 rfl ?_ ?_
                      · refine s_iconst (pc := 202) 1 dX12_row_202 kc_1 ?_
                        exact s_drop (hj76 1 Le.rf) (And.intro rfl (And.intro rfl (And.intro rfl (And.intro rfl trivial))))
                      · refine s_iconst (pc := 198) 0 dX12_row_198 kc_0 ?_
                        refine s_goto (pc := 199) 203 dX12_row_199 rfl ?_
                        exact s_drop (hj76 0 Le.rf) (And.intro rfl (And.intro rfl (And.intro rfl (And.intro rfl trivial))))
                  · refine s_ifeq (pc := 178) 185 dX12_row_178 rfl ?_ ?_
                    · refine s_iconst (pc := 185) 0 dX12_row_185 kc_0 ?_
                      exact s_drop (hj71 0 Le.rf) (And.intro rfl (And.intro rfl (And.intro rfl (And.intro rfl trivial))))
                    · refine s_iconst (pc := 181) 1 dX12_row_181 kc_1 ?_
                      refine s_goto (pc := 182) 186 dX12_row_182 rfl ?_
                      exact s_drop (hj71 1 Le.rf) (And.intro rfl (And.intro rfl (And.intro rfl (And.intro rfl trivial))))
                · refine s_ifeq (pc := 158) 175 dX12_row_158 rfl ?_ ?_
                  · exact s_drop (hj66 s11.1 Le.rf) (And.intro rfl (And.intro rfl (And.intro rfl (And.intro rfl (And.intro rfl trivial)))))
                  · refine s_aload_n (pc := 161) 0 dX12_row_161 rfl rfl ?_
                    refine s_iconst (pc := 162) (-1) dX12_row_162 kc_m1 ?_
                    refine s_aload_n (pc := 163) 0 dX12_row_163 rfl rfl ?_
                    refine s_geto (pc := 164) F_12 3 rfl o17 dX12_row_164 kf_X12_20 ?_
                    refine s_rvB (fun r81 => ?_)
                    refine s_bipush (pc := 167) 54 dX12_row_167 kb_54 ?_
                    refine s_grd (fun o82 => ?_)
                    refine s_grd (fun i83 => ?_)
                    refine s_iald (pc := 169) o82 i83 dX12_row_169 ?_
                    refine s_iload (pc := 170) dX12_row_170 rfl ?_
                    refine s_bind (fun q84 hq85 => ?_)
                    have hC86 := t_X12_adds (l := xl X) (G := xG X) hq85
                    refine s_callV (pc := 172) (As := [.int (-1), .int (mI s11.1 r81 (54 : Int32).toNatClampNeg), .int x26.2.2]) (st := []) (nlt rfl) (q := (RX12, TX12, 59)) rfl rfl o17 cl_X12_adds wi_X12_adds wl_X12_adds km_X12_201 rfl rfl (nle rfl) (nle rfl) (nle rfl) dX12_row_172 hC86 ?_
                    have h87 := hC86.1 X
                    have o88 := h87.ok o17
                    show S0 X _ q84 175 [some (.ref (gh (xG X) + a0)), some (.int x2), some (.int s11.2.1), none, some (.int x26.1), some (.int s60), some (.int x26.2.2)] [] _
                    exact s_drop (hj66 q84 h87) (And.intro rfl (And.intro rfl (And.intro rfl (And.intro rfl (And.intro rfl trivial)))))
              · refine s_join s11.1 (fun s90 : Unit => s11.1) 153 (fun s90 : Unit => [some (.ref (gh (xG X) + a0)), some (.int x2), some (.int s11.2.1), none, some (.int x26.1), none, some (.int x26.2.2)]) (fun s90 : Unit => []) (fun s90 hs91 => ?_) (fun j89 hj92 => ?_)
                · show S0 X _ s11.1 153 [some (.ref (gh (xG X) + a0)), some (.int x2), some (.int s11.2.1), none, some (.int x26.1), none, some (.int x26.2.2)] [] _
                  refine s_iconst (pc := 153) 0 dX12_row_153 kc_0 ?_
                  exact s_drop (hj62 0 Le.rf) (And.intro rfl (And.intro rfl (And.intro rfl (And.intro rfl (And.intro rfl trivial)))))
                · refine s_ifeq (pc := 134) 153 dX12_row_134 rfl ?_ ?_
                  · exact s_drop (hj92 () Le.rf) (And.intro rfl (And.intro rfl (And.intro rfl (And.intro rfl (And.intro rfl trivial)))))
                  · refine s_aload_n (pc := 137) 0 dX12_row_137 rfl rfl ?_
                    refine s_geto (pc := 138) F_12 3 rfl o17 dX12_row_138 kf_X12_20 ?_
                    refine s_rvB (fun r93 => ?_)
                    refine s_bipush (pc := 141) 56 dX12_row_141 kb_56 ?_
                    refine s_grd (fun o94 => ?_)
                    refine s_grd (fun i95 => ?_)
                    refine s_iald (pc := 143) o94 i95 dX12_row_143 ?_
                    refine s_bipush (pc := 144) 12 dX12_row_144 kb_12 ?_
                    refine s_icge (pc := 146) 153 dX12_row_146 rfl ?_ ?_
                    · exact s_drop (hj92 () Le.rf) (And.intro rfl (And.intro rfl (And.intro rfl (And.intro rfl (And.intro rfl trivial)))))
                    · refine s_iconst (pc := 149) 1 dX12_row_149 kc_1 ?_
                      refine s_goto (pc := 150) 154 dX12_row_150 rfl ?_
                      exact s_drop (hj62 1 Le.rf) (And.intro rfl (And.intro rfl (And.intro rfl (And.intro rfl (And.intro rfl trivial)))))
        · show S0 X _ s11.1 44 [some (.ref (gh (xG X) + a0)), some (.int x2), some (.int s11.2.1), some (.int s11.2.2), some (.int s20.1), some (.int s20.2.1), some (.int s20.2.2)] [] _
          refine s_iload (pc := 44) dX12_row_44 rfl ?_
          refine s_iload_n (pc := 46) 1 dX12_row_46 rfl rfl ?_
          refine s_icge (pc := 47) 126 dX12_row_47 rfl ?_ ?_
          · exact s_drop (hR25 (s20.1, s20.2.1, s20.2.2) Le.rf) (And.intro rfl (And.intro rfl (And.intro rfl (And.intro rfl (And.intro rfl (And.intro rfl (And.intro rfl trivial)))))))
          · refine s_aload_n (pc := 50) 0 dX12_row_50 rfl rfl ?_
            refine s_geto (pc := 51) F_12 15 rfl o17 dX12_row_51 kf_X12_43 ?_
            refine s_rvB (fun r28 => ?_)
            refine s_iload (pc := 54) dX12_row_54 rfl ?_
            refine s_grd (fun o29 => ?_)
            refine s_grd (fun i30 => ?_)
            refine s_bald (pc := 56) o29 i30 dX12_row_56 ?_
            refine s_ifeq (pc := 57) 126 dX12_row_57 rfl ?_ ?_
            · exact s_drop (hR25 (s20.1, s20.2.1, s20.2.2) Le.rf) (And.intro rfl (And.intro rfl (And.intro rfl (And.intro rfl (And.intro rfl (And.intro rfl (And.intro rfl trivial)))))))
            · refine s_iload (pc := 60) dX12_row_60 rfl ?_
              refine s_join s11.1 (fun s32 : Int32 => s11.1) 94 (fun s32 : Int32 => [some (.ref (gh (xG X) + a0)), some (.int x2), some (.int s11.2.1), some (.int s11.2.2), some (.int s20.1), none, some (.int s20.2.2)]) (fun s32 : Int32 => [.int s32]) (fun s32 hs33 => ?_) (fun j31 hj34 => ?_)
              · show S0 X _ s11.1 94 [some (.ref (gh (xG X) + a0)), some (.int x2), some (.int s11.2.1), some (.int s11.2.2), some (.int s20.1), none, some (.int s20.2.2)] [.int s32] _
                refine s_istore (pc := 94) dX12_row_94 (nlt rfl) rfl (L' := [some (.ref (gh (xG X) + a0)), some (.int x2), some (.int s11.2.1), some (.int s11.2.2), some (.int s20.1), some (.int s32), some (.int s20.2.2)]) rfl ?_
                refine s_iload (pc := 96) dX12_row_96 rfl ?_
                refine s_join s11.1 (fun s36 : Int32 => s11.1) 118 (fun s36 : Int32 => [some (.ref (gh (xG X) + a0)), some (.int x2), some (.int s11.2.1), some (.int s11.2.2), some (.int s20.1), some (.int s32), none]) (fun s36 : Int32 => [.int s36]) (fun s36 hs37 => ?_) (fun j35 hj38 => ?_)
                · show S0 X _ s11.1 118 [some (.ref (gh (xG X) + a0)), some (.int x2), some (.int s11.2.1), some (.int s11.2.2), some (.int s20.1), some (.int s32), none] [.int s36] _
                  refine s_istore (pc := 118) dX12_row_118 (nlt rfl) rfl (L' := [some (.ref (gh (xG X) + a0)), some (.int x2), some (.int s11.2.1), some (.int s11.2.2), some (.int s20.1), some (.int s32), some (.int s36)]) rfl ?_
                  refine s_iinc (pc := 120) dX12_row_120 rfl (v := s20.1 + 1) (congrArg (fun z : Int32 => s20.1 + z) kc_1) (nlt rfl) rfl (L' := [some (.ref (gh (xG X) + a0)), some (.int x2), some (.int s11.2.1), some (.int s11.2.2), some (.int (s20.1 + 1)), some (.int s32), some (.int s36)]) rfl ?_
                  refine s_bv (fun x39 : Int32 => [some (.ref (gh (xG X) + a0)), some (.int x2), some (.int s11.2.1), some (.int s11.2.2), some (.int x39), some (.int s32), some (.int s36)]) (fun x39 => ?_) rfl
                  refine s_goto (pc := 123) 44 dX12_row_123 rfl ?_
                  exact s_drop (hT23 (x39, s32, s36) Le.rf) (And.intro rfl (And.intro rfl (And.intro rfl (And.intro rfl (And.intro rfl (And.intro rfl (And.intro rfl trivial)))))))
                · refine s_ifeq (pc := 98) 117 dX12_row_98 rfl ?_ ?_
                  · refine s_iconst (pc := 117) 0 dX12_row_117 kc_0 ?_
                    exact s_drop (hj38 0 Le.rf) (And.intro rfl (And.intro rfl (And.intro rfl (And.intro rfl (And.intro rfl (And.intro rfl trivial))))))
                  · refine s_bipush (pc := 101) 10 dX12_row_101 kb_10 ?_
                    refine s_iload (pc := 103) dX12_row_103 rfl ?_
                    refine s_imul (pc := 105) dX12_row_105 ?_
                    refine s_aload_n (pc := 106) 0 dX12_row_106 rfl rfl ?_
                    refine s_geto (pc := 107) F_12 15 rfl o17 dX12_row_107 kf_X12_43 ?_
                    refine s_rvB (fun r40 => ?_)
                    refine s_iload (pc := 110) dX12_row_110 rfl ?_
                    refine s_grd (fun o41 => ?_)
                    refine s_grd (fun i42 => ?_)
                    refine s_bald (pc := 112) o41 i42 dX12_row_112 ?_
                    refine s_iadd (pc := 113) dX12_row_113 ?_
                    refine s_goto (pc := 114) 118 dX12_row_114 rfl ?_
                    exact s_drop (hj38 ((10 * s20.2.2) + (mI s11.1 r40 s20.1.toNatClampNeg)) Le.rf) (And.intro rfl (And.intro rfl (And.intro rfl (And.intro rfl (And.intro rfl (And.intro rfl trivial))))))
              · refine s_join s11.1 (fun s44 : Unit => s11.1) 93 (fun s44 : Unit => [some (.ref (gh (xG X) + a0)), some (.int x2), some (.int s11.2.1), some (.int s11.2.2), some (.int s20.1), none, some (.int s20.2.2)]) (fun s44 : Unit => []) (fun s44 hs45 => ?_) (fun j43 hj46 => ?_)
                · show S0 X _ s11.1 93 [some (.ref (gh (xG X) + a0)), some (.int x2), some (.int s11.2.1), some (.int s11.2.2), some (.int s20.1), none, some (.int s20.2.2)] [] _
                  refine s_iconst (pc := 93) 0 dX12_row_93 kc_0 ?_
                  exact s_drop (hj34 0 Le.rf) (And.intro rfl (And.intro rfl (And.intro rfl (And.intro rfl (And.intro rfl (And.intro rfl trivial))))))
                · refine s_ifeq (pc := 62) 93 dX12_row_62 rfl ?_ ?_
                  · exact s_drop (hj46 () Le.rf) (And.intro rfl (And.intro rfl (And.intro rfl (And.intro rfl (And.intro rfl (And.intro rfl trivial))))))
                  · refine s_aload_n (pc := 65) 0 dX12_row_65 rfl rfl ?_
                    refine s_geto (pc := 66) F_12 15 rfl o17 dX12_row_66 kf_X12_43 ?_
                    refine s_rvB (fun r47 => ?_)
                    refine s_iload (pc := 69) dX12_row_69 rfl ?_
                    refine s_grd (fun o48 => ?_)
                    refine s_grd (fun i49 => ?_)
                    refine s_bald (pc := 71) o48 i49 dX12_row_71 ?_
                    refine s_iconst (pc := 72) 1 dX12_row_72 kc_1 ?_
                    refine s_bipush (pc := 73) 6 dX12_row_73 kb_6 ?_
                    refine s_bind (fun q50 hq51 => ?_)
                    have hC52 := t_X12_lies (l := xl X) (G := xG X) (M := s11.1) hq51
                    refine s_callS (pc := 75) (As := [.int (mI s11.1 r47 s20.1.toNatClampNeg), .int 1, .int 6]) (st := []) cl_X12_lies wt_X12_lies km_X12_123 rfl rfl (nle rfl) (nle rfl) (nle rfl) dX12_row_75 hC52 ?_
                    show S0 X _ s11.1 78 [some (.ref (gh (xG X) + a0)), some (.int x2), some (.int s11.2.1), some (.int s11.2.2), some (.int s20.1), some (.int s20.2.1), some (.int s20.2.2)] [.int q50] _
                    refine s_ifeq (pc := 78) 93 dX12_row_78 rfl ?_ ?_
                    · exact s_drop (hj46 () Le.rf) (And.intro rfl (And.intro rfl (And.intro rfl (And.intro rfl (And.intro rfl (And.intro rfl trivial))))))
                    · refine s_iload (pc := 81) dX12_row_81 rfl ?_
                      refine s_iload_n (pc := 83) 3 dX12_row_83 rfl rfl ?_
                      refine s_isub (pc := 84) dX12_row_84 ?_
                      refine s_iconst (pc := 85) 5 dX12_row_85 kc_5 ?_
                      refine s_icge (pc := 86) 93 dX12_row_86 rfl ?_ ?_
                      · exact s_drop (hj46 () Le.rf) (And.intro rfl (And.intro rfl (And.intro rfl (And.intro rfl (And.intro rfl (And.intro rfl trivial))))))
                      · refine s_iconst (pc := 89) 1 dX12_row_89 kc_1 ?_
                        refine s_goto (pc := 90) 94 dX12_row_90 rfl ?_
                        exact s_drop (hj34 1 Le.rf) (And.intro rfl (And.intro rfl (And.intro rfl (And.intro rfl (And.intro rfl (And.intro rfl trivial))))))
  · refine s_aload_n (pc := 14) 0 dX12_row_14 rfl rfl ?_
    refine s_bipush (pc := 15) (-6) dX12_row_15 kb_m6 ?_
    refine s_bind (fun q102 hq103 => ?_)
    have hC104 := t_X12_refuses (l := xl X) (G := xG X) hq103
    refine s_callV (pc := 17) (As := [.int (-6)]) (st := []) (nlt rfl) (q := (RX12, TX12, 59)) rfl rfl o6 cl_X12_refuses wi_X12_refuses wl_X12_refuses km_X12_127 rfl rfl (nle rfl) (nle rfl) (nle rfl) dX12_row_17 hC104 ?_
    have h105 := hC104.1 X
    have o106 := h105.ok o6
    show S0 X _ q102.1 20 [some (.ref (gh (xG X) + a0)), some (.int x2), none, none, none, none, none] [.int q102.2] _
    exact s_iret rfl dX12_row_20
