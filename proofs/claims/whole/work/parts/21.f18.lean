set_option maxRecDepth 100000 in
set_option maxHeartbeats 8000000 in
noncomputable def f_X12_poor (M : Mem) (a0 : Nat) (p1 : Int32) : Option Int32 :=
  if (-1) ≤ p1 then (Option.bind (loopO (σ := Int32 × Int32) (ρ := Int32 ⊕ (Int32 × Int32)) (fun s1 => if 999 < s1.2 then (some (.inr (.inl s1.1))) else (Option.bind (loopO (σ := Int32 × Int32) (ρ := Int32) (fun s13 => grd (okO M 12 a0) (Option.bind (mR M a0 3) (fun r22 => grd (okO M 14 r22) (grd (vp_in 56 (mL M r22)) (if (mI M r22 (56 : Int32).toNatClampNeg) ≤ s13.2 then (some (.inr s13.1)) else (bv (fun (s26 : Int32) => bv (s13.2 + 1 : Int32) (fun x29 => some (.inl (s26, x29)))) (fun j25 => bv (fun (s31 : Unit) => j25 1) (fun j30 => if s13.1 = 0 then (Option.bind (f_X12_fact M a0 s13.2 1) (fun q34 => if q34 = s1.2 then (j30 ()) else (j25 0))) else (j30 ()))))))))) (0, 0)) (fun (x19 : Int32) => Option.bind (loopO (σ := Int32 × Int32) (ρ := Int32 ⊕ Int32) (fun s37 => if 6 ≤ s37.2 then (some (.inr (.inl s37.1))) else (if x19 = 0 then (some (.inr (.inl s37.1))) else (grd (okO M 12 a0) (Option.bind (f_X12_isPoor M a0 s1.2 s37.2) (fun q50 => bv (fun (s54 : Int32) => bv (s37.2 + 1 : Int32) (fun x57 => some (.inl (s54, x57)))) (fun j53 => if q50 = 0 then (j53 s37.1) else (if s37.1 = p1 then (some (.inr (.inr s37.2))) else (bv (s37.1 + 1 : Int32) (fun x58 => j53 x58))))))))) (s1.1, 0)) (Sum.elim (fun (x45 : Int32) => bv (s1.2 + 1 : Int32) (fun x59 => some (.inl (x45, x59)))) (fun (x47 : Int32) => some (.inr (.inr (s1.2, x47)))))))) (0, 0)) (Sum.elim (fun (x9 : Int32) => if p1 = (-1) then (some x9) else (some (-1))) (fun (x11 : Int32 × Int32) => some ((6 * x11.1) + x11.2)))) else (some (-1))
abbrev Y_X12_poor : Sta := (RX12, "poor", cX12_poor, 6, (some .int), 3)
set_option maxRecDepth 100000 in
set_option maxHeartbeats 8000000 in
theorem t_X12_poor {l : Launch} {G : Gh} {M : Mem} {a0 : Nat} {p1 : Int32} {q : Int32} (h : f_X12_poor M a0 p1 = some q) : Ctr l G yX12_poor Y_X12_poor M [.ref (gh G + a0), .int p1] M (some (.int q)) := by
  refine Ctr.of (Y := Y_X12_poor) (L := [some (.ref (gh G + a0)), some (.int p1), none, none, none, none]) (t := Option.bind (f_X12_poor M a0 p1) (fun q => some (M, some (.int q)))) (by decide) rfl rfl (nle rfl) (Lof_in 4 _ rfl) (fun X hG hl => ?_) (by rw [h]; rfl)
  subst hG
  subst hl
  unfold f_X12_poor
  refine s_iload_n (pc := 0) 1 dX12_poor_0 rfl rfl ?_
  refine s_iconst (pc := 1) (-1) dX12_poor_1 kc_m1 ?_
  refine s_icge (pc := 2) 7 dX12_poor_2 rfl ?_ ?_
  · refine s_iconst (pc := 7) 0 dX12_poor_7 kc_0 ?_
    refine s_istore_n (pc := 8) 2 dX12_poor_8 rfl (nlt rfl) rfl (L' := [some (.ref (gh (xG X) + a0)), some (.int p1), some (.int 0), none, none, none]) rfl ?_
    refine s_iconst (pc := 9) 0 dX12_poor_9 kc_0 ?_
    refine s_istore_n (pc := 10) 3 dX12_poor_10 rfl (nlt rfl) rfl (L' := [some (.ref (gh (xG X) + a0)), some (.int p1), some (.int 0), some (.int 0), none, none]) rfl ?_
    refine s_drop (L' := [some (.ref (gh (xG X) + a0)), some (.int p1), some (.int 0), some (.int 0), none, none]) ?_ (And.intro rfl (And.intro rfl (And.intro rfl (And.intro rfl trivial))))
    refine s_loop2 M (fun s1 : Int32 × Int32 => M) (fun s1 : Int32 × Int32 => [some (.ref (gh (xG X) + a0)), some (.int p1), some (.int s1.1), some (.int s1.2), none, none]) (fun x9 : Int32 => M) 121 (fun x9 : Int32 => [none, some (.int p1), some (.int x9), none, none, none]) (fun x11 : Int32 × Int32 => M) 98 (fun x11 : Int32 × Int32 => [none, none, none, some (.int x11.1), none, some (.int x11.2)]) (fun x9 hx10 => ?_) (fun x11 hx12 => ?_) (fun T3 R5 R7 hT4 hR6 hR8 s1 hs2 => ?_) (0, 0) Le.rf
    · show S0 X _ M 121 [none, some (.int p1), some (.int x9), none, none, none] [] _
      refine s_iload_n (pc := 121) 1 dX12_poor_121 rfl rfl ?_
      refine s_iconst (pc := 122) (-1) dX12_poor_122 kc_m1 ?_
      refine s_icne (pc := 123) 130 dX12_poor_123 rfl ?_ ?_
      · refine s_iconst (pc := 130) (-1) dX12_poor_130 kc_m1 ?_
        exact s_iret rfl dX12_poor_131
      · refine s_iload_n (pc := 126) 2 dX12_poor_126 rfl rfl ?_
        refine s_goto (pc := 127) 131 dX12_poor_127 rfl ?_
        exact s_iret rfl dX12_poor_131
    · show S0 X _ M 98 [none, none, none, some (.int x11.1), none, some (.int x11.2)] [] _
      refine s_bipush (pc := 98) 6 dX12_poor_98 kb_6 ?_
      refine s_iload_n (pc := 100) 3 dX12_poor_100 rfl rfl ?_
      refine s_imul (pc := 101) dX12_poor_101 ?_
      refine s_iload (pc := 102) dX12_poor_102 rfl ?_
      refine s_iadd (pc := 104) dX12_poor_104 ?_
      exact s_iret rfl dX12_poor_105
    · show S0 X _ M 11 [some (.ref (gh (xG X) + a0)), some (.int p1), some (.int s1.1), some (.int s1.2), none, none] [] _
      refine s_iload_n (pc := 11) 3 dX12_poor_11 rfl rfl ?_
      refine s_sipush (pc := 12) 999 dX12_poor_12 ks_999 ?_
      refine s_icgt (pc := 15) 121 dX12_poor_15 rfl ?_ ?_
      · exact s_drop (hR6 s1.1 Le.rf) (And.intro rfl (And.intro rfl trivial))
      · refine s_iconst (pc := 18) 0 dX12_poor_18 kc_0 ?_
        refine s_istore (pc := 19) dX12_poor_19 (nlt rfl) rfl (L' := [some (.ref (gh (xG X) + a0)), some (.int p1), some (.int s1.1), some (.int s1.2), some (.int 0), none]) rfl ?_
        refine s_iconst (pc := 21) 0 dX12_poor_21 kc_0 ?_
        refine s_istore (pc := 22) dX12_poor_22 (nlt rfl) rfl (L' := [some (.ref (gh (xG X) + a0)), some (.int p1), some (.int s1.1), some (.int s1.2), some (.int 0), some (.int 0)]) rfl ?_
        refine s_drop (L' := [some (.ref (gh (xG X) + a0)), some (.int p1), some (.int s1.1), some (.int s1.2), some (.int 0), some (.int 0)]) ?_ (And.intro rfl (And.intro rfl (And.intro rfl (And.intro rfl (And.intro rfl (And.intro rfl trivial))))))
        refine s_loop1 M (fun s13 : Int32 × Int32 => M) (fun s13 : Int32 × Int32 => [some (.ref (gh (xG X) + a0)), some (.int p1), some (.int s1.1), some (.int s1.2), some (.int s13.1), some (.int s13.2)]) (fun x19 : Int32 => M) 65 (fun x19 : Int32 => [some (.ref (gh (xG X) + a0)), some (.int p1), some (.int s1.1), some (.int s1.2), some (.int x19), none]) (fun x19 hx20 => ?_) (fun T15 R17 hT16 hR18 s13 hs14 => ?_) (0, 0) Le.rf
        · show S0 X _ M 65 [some (.ref (gh (xG X) + a0)), some (.int p1), some (.int s1.1), some (.int s1.2), some (.int x19), none] [] _
          refine s_iconst (pc := 65) 0 dX12_poor_65 kc_0 ?_
          refine s_istore (pc := 66) dX12_poor_66 (nlt rfl) rfl (L' := [some (.ref (gh (xG X) + a0)), some (.int p1), some (.int s1.1), some (.int s1.2), some (.int x19), some (.int 0)]) rfl ?_
          refine s_drop (L' := [some (.ref (gh (xG X) + a0)), some (.int p1), some (.int s1.1), some (.int s1.2), some (.int x19), some (.int 0)]) ?_ (And.intro rfl (And.intro rfl (And.intro rfl (And.intro rfl (And.intro rfl (And.intro rfl trivial))))))
          refine s_loop2 M (fun s37 : Int32 × Int32 => M) (fun s37 : Int32 × Int32 => [some (.ref (gh (xG X) + a0)), some (.int p1), some (.int s37.1), some (.int s1.2), some (.int x19), some (.int s37.2)]) (fun x45 : Int32 => M) 115 (fun x45 : Int32 => [some (.ref (gh (xG X) + a0)), some (.int p1), some (.int x45), some (.int s1.2), none, none]) (fun x47 : Int32 => M) 98 (fun x47 : Int32 => [none, none, none, some (.int s1.2), none, some (.int x47)]) (fun x45 hx46 => ?_) (fun x47 hx48 => ?_) (fun T39 R41 R43 hT40 hR42 hR44 s37 hs38 => ?_) (s1.1, 0) Le.rf
          · show S0 X _ M 115 [some (.ref (gh (xG X) + a0)), some (.int p1), some (.int x45), some (.int s1.2), none, none] [] _
            refine s_iinc (pc := 115) dX12_poor_115 rfl (v := s1.2 + 1) (congrArg (fun z : Int32 => s1.2 + z) kc_1) (nlt rfl) rfl (L' := [some (.ref (gh (xG X) + a0)), some (.int p1), some (.int x45), some (.int (s1.2 + 1)), none, none]) rfl ?_
            refine s_bv (fun x59 : Int32 => [some (.ref (gh (xG X) + a0)), some (.int p1), some (.int x45), some (.int x59), none, none]) (fun x59 => ?_) rfl
            refine s_goto (pc := 118) 11 dX12_poor_118 rfl ?_
            exact s_drop (hT4 (x45, x59) Le.rf) (And.intro rfl (And.intro rfl (And.intro rfl (And.intro rfl trivial))))
          · show S0 X _ M 98 [none, none, none, some (.int s1.2), none, some (.int x47)] [] _
            exact s_drop (hR8 (s1.2, x47) Le.rf) (And.intro rfl (And.intro rfl trivial))
          · show S0 X _ M 68 [some (.ref (gh (xG X) + a0)), some (.int p1), some (.int s37.1), some (.int s1.2), some (.int x19), some (.int s37.2)] [] _
            refine s_iload (pc := 68) dX12_poor_68 rfl ?_
            refine s_bipush (pc := 70) 6 dX12_poor_70 kb_6 ?_
            refine s_icge (pc := 72) 115 dX12_poor_72 rfl ?_ ?_
            · exact s_drop (hR42 s37.1 Le.rf) (And.intro rfl (And.intro rfl (And.intro rfl (And.intro rfl trivial))))
            · refine s_iload (pc := 75) dX12_poor_75 rfl ?_
              refine s_ifeq (pc := 77) 115 dX12_poor_77 rfl ?_ ?_
              · exact s_drop (hR42 s37.1 Le.rf) (And.intro rfl (And.intro rfl (And.intro rfl (And.intro rfl trivial))))
              · refine s_aload_n (pc := 80) 0 dX12_poor_80 rfl rfl ?_
                refine s_iload_n (pc := 81) 3 dX12_poor_81 rfl rfl ?_
                refine s_iload (pc := 82) dX12_poor_82 rfl ?_
                refine s_grd (fun o49 => ?_)
                refine s_bind (fun q50 hq51 => ?_)
                have hC52 := t_X12_isPoor (l := xl X) (G := xG X) hq51
                refine s_callV (pc := 84) (As := [.int s1.2, .int s37.2]) (st := []) (nlt rfl) (q := (RX12, TX12, 59)) rfl rfl o49 cl_X12_isPoor wi_X12_isPoor wl_X12_isPoor km_X12_383 rfl rfl (nle rfl) (nle rfl) (nle rfl) dX12_poor_84 hC52 ?_
                show S0 X _ M 87 [some (.ref (gh (xG X) + a0)), some (.int p1), some (.int s37.1), some (.int s1.2), some (.int x19), some (.int s37.2)] [.int q50] _
                refine s_join M (fun s54 : Int32 => M) 109 (fun s54 : Int32 => [some (.ref (gh (xG X) + a0)), some (.int p1), some (.int s54), some (.int s1.2), some (.int x19), some (.int s37.2)]) (fun s54 : Int32 => []) (fun s54 hs55 => ?_) (fun j53 hj56 => ?_)
                · show S0 X _ M 109 [some (.ref (gh (xG X) + a0)), some (.int p1), some (.int s54), some (.int s1.2), some (.int x19), some (.int s37.2)] [] _
                  refine s_iinc (pc := 109) dX12_poor_109 rfl (v := s37.2 + 1) (congrArg (fun z : Int32 => s37.2 + z) kc_1) (nlt rfl) rfl (L' := [some (.ref (gh (xG X) + a0)), some (.int p1), some (.int s54), some (.int s1.2), some (.int x19), some (.int (s37.2 + 1))]) rfl ?_
                  refine s_bv (fun x57 : Int32 => [some (.ref (gh (xG X) + a0)), some (.int p1), some (.int s54), some (.int s1.2), some (.int x19), some (.int x57)]) (fun x57 => ?_) rfl
                  refine s_goto (pc := 112) 68 dX12_poor_112 rfl ?_
                  exact s_drop (hT40 (s54, x57) Le.rf) (And.intro rfl (And.intro rfl (And.intro rfl (And.intro rfl (And.intro rfl (And.intro rfl trivial))))))
                · refine s_ifne (pc := 87) 93 dX12_poor_87 rfl ?_ ?_
                  · refine s_iload_n (pc := 93) 2 dX12_poor_93 rfl rfl ?_
                    refine s_iload_n (pc := 94) 1 dX12_poor_94 rfl rfl ?_
                    refine s_icne (pc := 95) 106 dX12_poor_95 rfl ?_ ?_
                    · refine s_iinc (pc := 106) dX12_poor_106 rfl (v := s37.1 + 1) (congrArg (fun z : Int32 => s37.1 + z) kc_1) (nlt rfl) rfl (L' := [some (.ref (gh (xG X) + a0)), some (.int p1), some (.int (s37.1 + 1)), some (.int s1.2), some (.int x19), some (.int s37.2)]) rfl ?_
                      refine s_bv (fun x58 : Int32 => [some (.ref (gh (xG X) + a0)), some (.int p1), some (.int x58), some (.int s1.2), some (.int x19), some (.int s37.2)]) (fun x58 => ?_) rfl
                      exact s_drop (hj56 x58 Le.rf) (And.intro rfl (And.intro rfl (And.intro rfl (And.intro rfl (And.intro rfl (And.intro rfl trivial))))))
                    · exact s_drop (hR44 s37.2 Le.rf) (And.intro rfl (And.intro rfl trivial))
                  · refine s_goto (pc := 90) 109 dX12_poor_90 rfl ?_
                    exact s_drop (hj56 s37.1 Le.rf) (And.intro rfl (And.intro rfl (And.intro rfl (And.intro rfl (And.intro rfl (And.intro rfl trivial))))))
        · show S0 X _ M 24 [some (.ref (gh (xG X) + a0)), some (.int p1), some (.int s1.1), some (.int s1.2), some (.int s13.1), some (.int s13.2)] [] _
          refine s_iload (pc := 24) dX12_poor_24 rfl ?_
          refine s_aload_n (pc := 26) 0 dX12_poor_26 rfl rfl ?_
          refine s_grd (fun o21 => ?_)
          refine s_geto (pc := 27) F_12 3 rfl o21 dX12_poor_27 kf_X12_20 ?_
          refine s_rvB (fun r22 => ?_)
          refine s_bipush (pc := 30) 56 dX12_poor_30 kb_56 ?_
          refine s_grd (fun o23 => ?_)
          refine s_grd (fun i24 => ?_)
          refine s_iald (pc := 32) o23 i24 dX12_poor_32 ?_
          refine s_icge (pc := 33) 65 dX12_poor_33 rfl ?_ ?_
          · exact s_drop (hR18 s13.1 Le.rf) (And.intro rfl (And.intro rfl (And.intro rfl (And.intro rfl (And.intro rfl trivial)))))
          · refine s_iload (pc := 36) dX12_poor_36 rfl ?_
            refine s_join M (fun s26 : Int32 => M) 57 (fun s26 : Int32 => [some (.ref (gh (xG X) + a0)), some (.int p1), some (.int s1.1), some (.int s1.2), none, some (.int s13.2)]) (fun s26 : Int32 => [.int s26]) (fun s26 hs27 => ?_) (fun j25 hj28 => ?_)
            · show S0 X _ M 57 [some (.ref (gh (xG X) + a0)), some (.int p1), some (.int s1.1), some (.int s1.2), none, some (.int s13.2)] [.int s26] _
              refine s_istore (pc := 57) dX12_poor_57 (nlt rfl) rfl (L' := [some (.ref (gh (xG X) + a0)), some (.int p1), some (.int s1.1), some (.int s1.2), some (.int s26), some (.int s13.2)]) rfl ?_
              refine s_iinc (pc := 59) dX12_poor_59 rfl (v := s13.2 + 1) (congrArg (fun z : Int32 => s13.2 + z) kc_1) (nlt rfl) rfl (L' := [some (.ref (gh (xG X) + a0)), some (.int p1), some (.int s1.1), some (.int s1.2), some (.int s26), some (.int (s13.2 + 1))]) rfl ?_
              refine s_bv (fun x29 : Int32 => [some (.ref (gh (xG X) + a0)), some (.int p1), some (.int s1.1), some (.int s1.2), some (.int s26), some (.int x29)]) (fun x29 => ?_) rfl
              refine s_goto (pc := 62) 24 dX12_poor_62 rfl ?_
              exact s_drop (hT16 (s26, x29) Le.rf) (And.intro rfl (And.intro rfl (And.intro rfl (And.intro rfl (And.intro rfl (And.intro rfl trivial))))))
            · refine s_join M (fun s31 : Unit => M) 52 (fun s31 : Unit => [some (.ref (gh (xG X) + a0)), some (.int p1), some (.int s1.1), some (.int s1.2), none, some (.int s13.2)]) (fun s31 : Unit => []) (fun s31 hs32 => ?_) (fun j30 hj33 => ?_)
              · show S0 X _ M 52 [some (.ref (gh (xG X) + a0)), some (.int p1), some (.int s1.1), some (.int s1.2), none, some (.int s13.2)] [] _
                refine s_iconst (pc := 52) 1 dX12_poor_52 kc_1 ?_
                refine s_goto (pc := 53) 57 dX12_poor_53 rfl ?_
                exact s_drop (hj28 1 Le.rf) (And.intro rfl (And.intro rfl (And.intro rfl (And.intro rfl (And.intro rfl trivial)))))
              · refine s_ifne (pc := 38) 52 dX12_poor_38 rfl ?_ ?_
                · exact s_drop (hj33 () Le.rf) (And.intro rfl (And.intro rfl (And.intro rfl (And.intro rfl (And.intro rfl trivial)))))
                · refine s_aload_n (pc := 41) 0 dX12_poor_41 rfl rfl ?_
                  refine s_iload (pc := 42) dX12_poor_42 rfl ?_
                  refine s_iconst (pc := 44) 1 dX12_poor_44 kc_1 ?_
                  refine s_bind (fun q34 hq35 => ?_)
                  have hC36 := t_X12_fact (l := xl X) (G := xG X) hq35
                  refine s_callV (pc := 45) (As := [.int s13.2, .int 1]) (st := []) (nlt rfl) (q := (RX12, TX12, 59)) rfl rfl o21 cl_X12_fact wi_X12_fact wl_X12_fact km_X12_194 rfl rfl (nle rfl) (nle rfl) (nle rfl) dX12_poor_45 hC36 ?_
                  show S0 X _ M 48 [some (.ref (gh (xG X) + a0)), some (.int p1), some (.int s1.1), some (.int s1.2), some (.int s13.1), some (.int s13.2)] [.int q34] _
                  refine s_iload_n (pc := 48) 3 dX12_poor_48 rfl rfl ?_
                  refine s_icne (pc := 49) 56 dX12_poor_49 rfl ?_ ?_
                  · refine s_iconst (pc := 56) 0 dX12_poor_56 kc_0 ?_
                    exact s_drop (hj28 0 Le.rf) (And.intro rfl (And.intro rfl (And.intro rfl (And.intro rfl (And.intro rfl trivial)))))
                  · exact s_drop (hj33 () Le.rf) (And.intro rfl (And.intro rfl (And.intro rfl (And.intro rfl (And.intro rfl trivial)))))
  · refine s_iconst (pc := 5) (-1) dX12_poor_5 kc_m1 ?_
    exact s_iret rfl dX12_poor_6
set_option maxRecDepth 100000 in
set_option maxHeartbeats 8000000 in
noncomputable def f_X12_put (M : Mem) (a0 : Nat) (p1 : Int32) (p2 : Int32) (p3 : Int32) : Option (Mem × Int32) :=
  Option.bind (f_X12_isThing p1) (fun q1 => bv (fun (s5 : Unit) => grd (okO M 12 a0) (Option.bind (f_X12_refuses M a0 (-1)) (fun q9 => some (q9.1, q9.2)))) (fun j4 => if q1 = 0 then (j4 ()) else (Option.bind (f_X12_isPut p1 p2 p3) (fun q14 => if q14 = 0 then (j4 ()) else (grd (okO M 12 a0) (Option.bind (mR M a0 3) (fun r18 => grd (okO M 14 r18) (grd (vp_in ((0 + (6 * p2)) + p1) (mL M r18)) (bv (mI M r18 ((0 + (6 * p2)) + p1).toNatClampNeg : Int32) (fun x21 => Option.bind (mR M a0 3) (fun r22 => grd (okO M 14 r22) (grd (vp_in ((0 + (6 * p2)) + p1) (mL M r22)) (bv (wI M r22 ((0 + (6 * p2)) + p1).toNatClampNeg p3) (fun M25 => Option.bind (f_X12_good M25 a0 x21) (fun q29 => some (q29.1, q29.2))))))))))))))))
abbrev Y_X12_put : Sta := (RX12, "put", cX12_put, 5, (some .int), 3)
set_option maxRecDepth 100000 in
set_option maxHeartbeats 8000000 in
theorem t_X12_put {l : Launch} {G : Gh} {M : Mem} {a0 : Nat} {p1 : Int32} {p2 : Int32} {p3 : Int32} {q : Mem × Int32} (h : f_X12_put M a0 p1 p2 p3 = some q) : Ctr l G yX12_put Y_X12_put M [.ref (gh G + a0), .int p1, .int p2, .int p3] q.1 (some (.int q.2)) := by
  refine Ctr.of (Y := Y_X12_put) (L := [some (.ref (gh G + a0)), some (.int p1), some (.int p2), some (.int p3), none]) (t := Option.bind (f_X12_put M a0 p1 p2 p3) (fun q => some (q.1, some (.int q.2)))) (by decide) rfl rfl (nle rfl) (Lof_in 1 _ rfl) (fun X hG hl => ?_) (by rw [h]; rfl)
  subst hG
  subst hl
  unfold f_X12_put
  refine s_iload_n (pc := 0) 1 dX12_put_0 rfl rfl ?_
  refine s_bind (fun q1 hq2 => ?_)
  have hC3 := t_X12_isThing (l := xl X) (G := xG X) (M := M) hq2
  refine s_callS (pc := 1) (As := [.int p1]) (st := []) cl_X12_isThing wt_X12_isThing km_X12_134 rfl rfl (nle rfl) (nle rfl) (nle rfl) dX12_put_1 hC3 ?_
  show S0 X _ M 4 [some (.ref (gh (xG X) + a0)), some (.int p1), some (.int p2), some (.int p3), none] [.int q1] _
  refine s_join M (fun s5 : Unit => M) 16 (fun s5 : Unit => [some (.ref (gh (xG X) + a0)), none, none, none, none]) (fun s5 : Unit => []) (fun s5 hs6 => ?_) (fun j4 hj7 => ?_)
  · show S0 X _ M 16 [some (.ref (gh (xG X) + a0)), none, none, none, none] [] _
    refine s_aload_n (pc := 16) 0 dX12_put_16 rfl rfl ?_
    refine s_iconst (pc := 17) (-1) dX12_put_17 kc_m1 ?_
    refine s_grd (fun o8 => ?_)
    refine s_bind (fun q9 hq10 => ?_)
    have hC11 := t_X12_refuses (l := xl X) (G := xG X) hq10
    refine s_callV (pc := 18) (As := [.int (-1)]) (st := []) (nlt rfl) (q := (RX12, TX12, 59)) rfl rfl o8 cl_X12_refuses wi_X12_refuses wl_X12_refuses km_X12_127 rfl rfl (nle rfl) (nle rfl) (nle rfl) dX12_put_18 hC11 ?_
    have h12 := hC11.1 X
    have o13 := h12.ok o8
    show S0 X _ q9.1 21 [some (.ref (gh (xG X) + a0)), none, none, none, none] [.int q9.2] _
    exact s_iret rfl dX12_put_21
  · refine s_ifeq (pc := 4) 16 dX12_put_4 rfl ?_ ?_
    · exact s_drop (hj7 () Le.rf) (And.intro rfl trivial)
    · refine s_iload_n (pc := 7) 1 dX12_put_7 rfl rfl ?_
      refine s_iload_n (pc := 8) 2 dX12_put_8 rfl rfl ?_
      refine s_iload_n (pc := 9) 3 dX12_put_9 rfl rfl ?_
      refine s_bind (fun q14 hq15 => ?_)
      have hC16 := t_X12_isPut (l := xl X) (G := xG X) (M := M) hq15
      refine s_callS (pc := 10) (As := [.int p1, .int p2, .int p3]) (st := []) cl_X12_isPut wt_X12_isPut km_X12_138 rfl rfl (nle rfl) (nle rfl) (nle rfl) dX12_put_10 hC16 ?_
      show S0 X _ M 13 [some (.ref (gh (xG X) + a0)), some (.int p1), some (.int p2), some (.int p3), none] [.int q14] _
      refine s_ifne (pc := 13) 22 dX12_put_13 rfl ?_ ?_
      · refine s_aload_n (pc := 22) 0 dX12_put_22 rfl rfl ?_
        refine s_grd (fun o17 => ?_)
        refine s_geto (pc := 23) F_12 3 rfl o17 dX12_put_23 kf_X12_20 ?_
        refine s_rvB (fun r18 => ?_)
        refine s_iconst (pc := 26) 0 dX12_put_26 kc_0 ?_
        refine s_bipush (pc := 27) 6 dX12_put_27 kb_6 ?_
        refine s_iload_n (pc := 29) 2 dX12_put_29 rfl rfl ?_
        refine s_imul (pc := 30) dX12_put_30 ?_
        refine s_iadd (pc := 31) dX12_put_31 ?_
        refine s_iload_n (pc := 32) 1 dX12_put_32 rfl rfl ?_
        refine s_iadd (pc := 33) dX12_put_33 ?_
        refine s_grd (fun o19 => ?_)
        refine s_grd (fun i20 => ?_)
        refine s_iald (pc := 34) o19 i20 dX12_put_34 ?_
        refine s_istore (pc := 35) dX12_put_35 (nlt rfl) rfl (L' := [some (.ref (gh (xG X) + a0)), some (.int p1), some (.int p2), some (.int p3), some (.int (mI M r18 ((0 + (6 * p2)) + p1).toNatClampNeg))]) rfl ?_
        refine s_bv (fun x21 : Int32 => [some (.ref (gh (xG X) + a0)), some (.int p1), some (.int p2), some (.int p3), some (.int x21)]) (fun x21 => ?_) rfl
        refine s_aload_n (pc := 37) 0 dX12_put_37 rfl rfl ?_
        refine s_geto (pc := 38) F_12 3 rfl o17 dX12_put_38 kf_X12_20 ?_
        refine s_rvB (fun r22 => ?_)
        refine s_iconst (pc := 41) 0 dX12_put_41 kc_0 ?_
        refine s_bipush (pc := 42) 6 dX12_put_42 kb_6 ?_
        refine s_iload_n (pc := 44) 2 dX12_put_44 rfl rfl ?_
        refine s_imul (pc := 45) dX12_put_45 ?_
        refine s_iadd (pc := 46) dX12_put_46 ?_
        refine s_iload_n (pc := 47) 1 dX12_put_47 rfl rfl ?_
        refine s_iadd (pc := 48) dX12_put_48 ?_
        refine s_iload_n (pc := 49) 3 dX12_put_49 rfl rfl ?_
        refine s_grd (fun o23 => ?_)
        refine s_grd (fun i24 => ?_)
        refine s_iast (pc := 50) o23 i24 dX12_put_50 (fun M25 hM26 => ?_)
        have h27 := le_wI hM26
        have o28 := h27.ok o17
        refine s_aload_n (pc := 51) 0 dX12_put_51 rfl rfl ?_
        refine s_iload (pc := 52) dX12_put_52 rfl ?_
        refine s_bind (fun q29 hq30 => ?_)
        have hC31 := t_X12_good (l := xl X) (G := xG X) hq30
        refine s_callV (pc := 54) (As := [.int x21]) (st := []) (nlt rfl) (q := (RX12, TX12, 59)) rfl rfl o28 cl_X12_good wi_X12_good wl_X12_good km_X12_131 rfl rfl (nle rfl) (nle rfl) (nle rfl) dX12_put_54 hC31 ?_
        have h32 := hC31.1 X
        have o33 := h32.ok o28
        show S0 X _ q29.1 57 [some (.ref (gh (xG X) + a0)), some (.int p1), some (.int p2), some (.int p3), some (.int x21)] [.int q29.2] _
        exact s_iret rfl dX12_put_57
      · exact s_drop (hj7 () Le.rf) (And.intro rfl trivial)
set_option maxRecDepth 100000 in
set_option maxHeartbeats 8000000 in
noncomputable def f_X12_stood (M : Mem) (a0 : Nat) (p1 : Int32) : Option (Mem × Int32) :=
  Option.bind (f_X12_isDish p1) (fun q1 => if q1 = 0 then (some (M, (-1))) else (grd (okO M 12 a0) (Option.bind (f_X12_opens M a0 p1) (fun q5 => Option.bind (loopO (σ := Mem × Int32) (ρ := Mem ⊕ Mem) (fun s10 => if (mI s10.1 a0 7) ≤ s10.2 then (some (.inr (.inl s10.1))) else (Option.bind (mR s10.1 a0 6) (fun r23 => Option.bind (mR s10.1 a0 6) (fun r24 => grd (okO s10.1 14 r24) (grd (vp_in s10.2 (mL s10.1 r24)) (Option.bind (f_X12_gotFor s10.1 a0 (mI s10.1 r24 s10.2.toNatClampNeg)) (fun q27 => grd (okO s10.1 14 r23) (grd (vp_in s10.2 (mL s10.1 r23)) (bv (wI s10.1 r23 s10.2.toNatClampNeg q27) (fun M32 => Option.bind (mR M32 a0 6) (fun r36 => grd (okO M32 14 r36) (grd (vp_in s10.2 (mL M32 r36)) (if (mI M32 r36 s10.2.toNatClampNeg) = (-1) then (some (.inr (.inr M32))) else (bv (s10.2 + 1 : Int32) (fun x39 => some (.inl (M32, x39))))))))))))))))) (q5, 0)) (Sum.elim (fun (x19 : Mem) => Option.bind (f_X12_closes x19 a0) (fun q41 => some (x19, q41))) (fun (x21 : Mem) => some (x21, (-1))))))))
abbrev Y_X12_stood : Sta := (RX12, "stood", cX12_stood, 3, (some .int), 3)
set_option maxRecDepth 100000 in
set_option maxHeartbeats 8000000 in
theorem t_X12_stood {l : Launch} {G : Gh} {M : Mem} {a0 : Nat} {p1 : Int32} {q : Mem × Int32} (h : f_X12_stood M a0 p1 = some q) : Ctr l G yX12_stood Y_X12_stood M [.ref (gh G + a0), .int p1] q.1 (some (.int q.2)) := by
  refine Ctr.of (Y := Y_X12_stood) (L := [some (.ref (gh G + a0)), some (.int p1), none]) (t := Option.bind (f_X12_stood M a0 p1) (fun q => some (q.1, some (.int q.2)))) (by decide) rfl rfl (nle rfl) (Lof_in 1 _ rfl) (fun X hG hl => ?_) (by rw [h]; rfl)
  subst hG
  subst hl
  unfold f_X12_stood
  refine s_iload_n (pc := 0) 1 dX12_stood_0 rfl rfl ?_
  refine s_bind (fun q1 hq2 => ?_)
  have hC3 := t_X12_isDish (l := xl X) (G := xG X) (M := M) hq2
  refine s_callS (pc := 1) (As := [.int p1]) (st := []) cl_X12_isDish wt_X12_isDish km_X12_184 rfl rfl (nle rfl) (nle rfl) (nle rfl) dX12_stood_1 hC3 ?_
  show S0 X _ M 4 [some (.ref (gh (xG X) + a0)), some (.int p1), none] [.int q1] _
  refine s_ifne (pc := 4) 9 dX12_stood_4 rfl ?_ ?_
  · refine s_aload_n (pc := 9) 0 dX12_stood_9 rfl rfl ?_
    refine s_iload_n (pc := 10) 1 dX12_stood_10 rfl rfl ?_
    refine s_grd (fun o4 => ?_)
    refine s_bind (fun q5 hq6 => ?_)
    have hC7 := t_X12_opens (l := xl X) (G := xG X) hq6
    refine s_callV (pc := 11) (As := [.int p1]) (st := []) (nlt rfl) (q := (RX12, TX12, 59)) rfl rfl o4 cl_X12_opens wi_X12_opens wl_X12_opens km_X12_145 rfl rfl (nle rfl) (nle rfl) (nle rfl) dX12_stood_11 hC7 ?_
    have h8 := hC7.1 X
    have o9 := h8.ok o4
    show S0 X _ q5 14 [some (.ref (gh (xG X) + a0)), some (.int p1), none] [] _
    refine s_iconst (pc := 14) 0 dX12_stood_14 kc_0 ?_
    refine s_istore_n (pc := 15) 2 dX12_stood_15 rfl (nlt rfl) rfl (L' := [some (.ref (gh (xG X) + a0)), some (.int p1), some (.int 0)]) rfl ?_
    refine s_drop (L' := [some (.ref (gh (xG X) + a0)), none, some (.int 0)]) ?_ (And.intro rfl (And.intro rfl trivial))
    refine s_loop2 q5 (fun s10 : Mem × Int32 => s10.1) (fun s10 : Mem × Int32 => [some (.ref (gh (xG X) + a0)), none, some (.int s10.2)]) (fun x19 : Mem => x19) 58 (fun x19 : Mem => [some (.ref (gh (xG X) + a0)), none, none]) (fun x21 : Mem => x21) 50 (fun x21 : Mem => [none, none, none]) (fun x19 hx20 => ?_) (fun x21 hx22 => ?_) (fun T12 R14 R16 hT13 hR15 hR17 s10 hs11 => ?_) (q5, 0) Le.rf
    · show S0 X _ x19 58 [some (.ref (gh (xG X) + a0)), none, none] [] _
      have o40 := hx20.ok o9
      refine s_aload_n (pc := 58) 0 dX12_stood_58 rfl rfl ?_
      refine s_bind (fun q41 hq42 => ?_)
      have hC43 := t_X12_closes (l := xl X) (G := xG X) hq42
      refine s_callV (pc := 59) (As := []) (st := []) (nlt rfl) (q := (RX12, TX12, 59)) rfl rfl o40 cl_X12_closes wi_X12_closes wl_X12_closes km_X12_152 rfl rfl (nle rfl) (nle rfl) (nle rfl) dX12_stood_59 hC43 ?_
      show S0 X _ x19 62 [some (.ref (gh (xG X) + a0)), none, none] [.int q41] _
      exact s_iret rfl dX12_stood_62
    · show S0 X _ x21 50 [none, none, none] [] _
      refine s_iconst (pc := 50) (-1) dX12_stood_50 kc_m1 ?_
      exact s_iret rfl dX12_stood_51
    · show S0 X _ s10.1 16 [some (.ref (gh (xG X) + a0)), none, some (.int s10.2)] [] _
      have o18 := hs11.ok o9
      refine s_iload_n (pc := 16) 2 dX12_stood_16 rfl rfl ?_
      refine s_aload_n (pc := 17) 0 dX12_stood_17 rfl rfl ?_
      refine s_geti (pc := 18) F_12 7 rfl o18 dX12_stood_18 kf_X12_142 ?_
      refine s_icge (pc := 21) 58 dX12_stood_21 rfl ?_ ?_
      · exact s_drop (hR15 s10.1 hs11) (And.intro rfl trivial)
      · refine s_aload_n (pc := 24) 0 dX12_stood_24 rfl rfl ?_
        refine s_geto (pc := 25) F_12 6 rfl o18 dX12_stood_25 kf_X12_30 ?_
        refine s_rvB (fun r23 => ?_)
        refine s_iload_n (pc := 28) 2 dX12_stood_28 rfl rfl ?_
        refine s_aload_n (pc := 29) 0 dX12_stood_29 rfl rfl ?_
        refine s_aload_n (pc := 30) 0 dX12_stood_30 rfl rfl ?_
        refine s_geto (pc := 31) F_12 6 rfl o18 dX12_stood_31 kf_X12_30 ?_
        refine s_rvB (fun r24 => ?_)
        refine s_iload_n (pc := 34) 2 dX12_stood_34 rfl rfl ?_
        refine s_grd (fun o25 => ?_)
        refine s_grd (fun i26 => ?_)
        refine s_iald (pc := 35) o25 i26 dX12_stood_35 ?_
        refine s_bind (fun q27 hq28 => ?_)
        have hC29 := t_X12_gotFor (l := xl X) (G := xG X) hq28
        refine s_callV (pc := 36) (As := [.int (mI s10.1 r24 s10.2.toNatClampNeg)]) (st := [.int s10.2, .ref (gh (xG X) + r23)]) (nlt rfl) (q := (RX12, TX12, 59)) rfl rfl o18 cl_X12_gotFor wi_X12_gotFor wl_X12_gotFor km_X12_416 rfl rfl (nle rfl) (nle rfl) (nle rfl) dX12_stood_36 hC29 ?_
        show S0 X _ s10.1 39 [some (.ref (gh (xG X) + a0)), none, some (.int s10.2)] [.int q27, .int s10.2, .ref (gh (xG X) + r23)] _
        refine s_grd (fun o30 => ?_)
        refine s_grd (fun i31 => ?_)
        refine s_iast (pc := 39) o30 i31 dX12_stood_39 (fun M32 hM33 => ?_)
        have h34 := le_wI hM33
        have o35 := h34.ok o18
        refine s_aload_n (pc := 40) 0 dX12_stood_40 rfl rfl ?_
        refine s_geto (pc := 41) F_12 6 rfl o35 dX12_stood_41 kf_X12_30 ?_
        refine s_rvB (fun r36 => ?_)
        refine s_iload_n (pc := 44) 2 dX12_stood_44 rfl rfl ?_
        refine s_grd (fun o37 => ?_)
        refine s_grd (fun i38 => ?_)
        refine s_iald (pc := 45) o37 i38 dX12_stood_45 ?_
        refine s_iconst (pc := 46) (-1) dX12_stood_46 kc_m1 ?_
        refine s_icne (pc := 47) 52 dX12_stood_47 rfl ?_ ?_
        · refine s_iinc (pc := 52) dX12_stood_52 rfl (v := s10.2 + 1) (congrArg (fun z : Int32 => s10.2 + z) kc_1) (nlt rfl) rfl (L' := [some (.ref (gh (xG X) + a0)), none, some (.int (s10.2 + 1))]) rfl ?_
          refine s_bv (fun x39 : Int32 => [some (.ref (gh (xG X) + a0)), none, some (.int x39)]) (fun x39 => ?_) rfl
          refine s_goto (pc := 55) 16 dX12_stood_55 rfl ?_
          exact s_drop (hT13 (M32, x39) (hs11.tr h34)) (And.intro rfl (And.intro rfl trivial))
        · exact s_drop (hR17 M32 (hs11.tr h34)) trivial
  · refine s_iconst (pc := 7) (-1) dX12_stood_7 kc_m1 ?_
    exact s_iret rfl dX12_stood_8
set_option maxRecDepth 100000 in
set_option maxHeartbeats 8000000 in
noncomputable def f_X12_whyNot (M : Mem) (a0 : Nat) (p1 : Int32) (p2 : Int32) (p3 : Int32) : Option Int32 :=
  Option.bind (f_X12_lies p2 0 999) (fun q1 => if q1 = 0 then (some (-1)) else (Option.bind (f_X12_isDish p3) (fun q4 => if q4 = 0 then (some (-1)) else (bv (fun (s8 : Unit) => bv (fun (s12 : Unit) => grd (okO M 12 a0) (Option.bind (mR M a0 3) (fun r16 => grd (okO M 14 r16) (grd (vp_in 56 (mL M r16)) (if (mI M r16 (56 : Int32).toNatClampNeg) = 12 then (some (-5)) else (some 0)))))) (fun j11 => if p1 = (-1) then (j11 ()) else (grd (okO M 12 a0) (Option.bind (f_X12_fact M a0 p1 1) (fun q20 => if q20 ≤ p2 then (j11 ()) else (some (-3))))))) (fun j7 => if p1 = (-1) then (j7 ()) else (grd (okO M 12 a0) (Option.bind (f_X12_isHouse M a0 p1) (fun q24 => if q24 = 0 then (some (-2)) else (j7 ())))))))))
abbrev Y_X12_whyNot : Sta := (RX12, "whyNot", cX12_whyNot, 4, (some .int), 3)
set_option maxRecDepth 100000 in
set_option maxHeartbeats 8000000 in
theorem t_X12_whyNot {l : Launch} {G : Gh} {M : Mem} {a0 : Nat} {p1 : Int32} {p2 : Int32} {p3 : Int32} {q : Int32} (h : f_X12_whyNot M a0 p1 p2 p3 = some q) : Ctr l G yX12_whyNot Y_X12_whyNot M [.ref (gh G + a0), .int p1, .int p2, .int p3] M (some (.int q)) := by
  refine Ctr.of (Y := Y_X12_whyNot) (L := [some (.ref (gh G + a0)), some (.int p1), some (.int p2), some (.int p3)]) (t := Option.bind (f_X12_whyNot M a0 p1 p2 p3) (fun q => some (M, some (.int q)))) (by decide) rfl rfl (nle rfl) (Lof_in 0 _ rfl) (fun X hG hl => ?_) (by rw [h]; rfl)
  subst hG
  subst hl
  unfold f_X12_whyNot
  refine s_iload_n (pc := 0) 2 dX12_whyNot_0 rfl rfl ?_
  refine s_iconst (pc := 1) 0 dX12_whyNot_1 kc_0 ?_
  refine s_sipush (pc := 2) 999 dX12_whyNot_2 ks_999 ?_
  refine s_bind (fun q1 hq2 => ?_)
  have hC3 := t_X12_lies (l := xl X) (G := xG X) (M := M) hq2
  refine s_callS (pc := 5) (As := [.int p2, .int 0, .int 999]) (st := []) cl_X12_lies wt_X12_lies km_X12_123 rfl rfl (nle rfl) (nle rfl) (nle rfl) dX12_whyNot_5 hC3 ?_
  show S0 X _ M 8 [some (.ref (gh (xG X) + a0)), some (.int p1), some (.int p2), some (.int p3)] [.int q1] _
  refine s_ifeq (pc := 8) 18 dX12_whyNot_8 rfl ?_ ?_
  · refine s_iconst (pc := 18) (-1) dX12_whyNot_18 kc_m1 ?_
    exact s_iret rfl dX12_whyNot_19
  · refine s_iload_n (pc := 11) 3 dX12_whyNot_11 rfl rfl ?_
    refine s_bind (fun q4 hq5 => ?_)
    have hC6 := t_X12_isDish (l := xl X) (G := xG X) (M := M) hq5
    refine s_callS (pc := 12) (As := [.int p3]) (st := []) cl_X12_isDish wt_X12_isDish km_X12_184 rfl rfl (nle rfl) (nle rfl) (nle rfl) dX12_whyNot_12 hC6 ?_
    show S0 X _ M 15 [some (.ref (gh (xG X) + a0)), some (.int p1), some (.int p2), some (.int p3)] [.int q4] _
    refine s_ifne (pc := 15) 20 dX12_whyNot_15 rfl ?_ ?_
    · refine s_iload_n (pc := 20) 1 dX12_whyNot_20 rfl rfl ?_
      refine s_iconst (pc := 21) (-1) dX12_whyNot_21 kc_m1 ?_
      refine s_join M (fun s8 : Unit => M) 36 (fun s8 : Unit => [some (.ref (gh (xG X) + a0)), some (.int p1), some (.int p2), none]) (fun s8 : Unit => []) (fun s8 hs9 => ?_) (fun j7 hj10 => ?_)
      · show S0 X _ M 36 [some (.ref (gh (xG X) + a0)), some (.int p1), some (.int p2), none] [] _
        refine s_iload_n (pc := 36) 1 dX12_whyNot_36 rfl rfl ?_
        refine s_iconst (pc := 37) (-1) dX12_whyNot_37 kc_m1 ?_
        refine s_join M (fun s12 : Unit => M) 54 (fun s12 : Unit => [some (.ref (gh (xG X) + a0)), none, none, none]) (fun s12 : Unit => []) (fun s12 hs13 => ?_) (fun j11 hj14 => ?_)
        · show S0 X _ M 54 [some (.ref (gh (xG X) + a0)), none, none, none] [] _
          refine s_aload_n (pc := 54) 0 dX12_whyNot_54 rfl rfl ?_
          refine s_grd (fun o15 => ?_)
          refine s_geto (pc := 55) F_12 3 rfl o15 dX12_whyNot_55 kf_X12_20 ?_
          refine s_rvB (fun r16 => ?_)
          refine s_bipush (pc := 58) 56 dX12_whyNot_58 kb_56 ?_
          refine s_grd (fun o17 => ?_)
          refine s_grd (fun i18 => ?_)
          refine s_iald (pc := 60) o17 i18 dX12_whyNot_60 ?_
          refine s_bipush (pc := 61) 12 dX12_whyNot_61 kb_12 ?_
          refine s_icne (pc := 63) 71 dX12_whyNot_63 rfl ?_ ?_
          · refine s_iconst (pc := 71) 0 dX12_whyNot_71 kc_0 ?_
            exact s_iret rfl dX12_whyNot_72
          · refine s_bipush (pc := 66) (-5) dX12_whyNot_66 kb_m5 ?_
            refine s_goto (pc := 68) 72 dX12_whyNot_68 rfl ?_
            exact s_iret rfl dX12_whyNot_72
        · refine s_iceq (pc := 38) 54 dX12_whyNot_38 rfl ?_ ?_
          · exact s_drop (hj14 () Le.rf) (And.intro rfl trivial)
          · refine s_iload_n (pc := 41) 2 dX12_whyNot_41 rfl rfl ?_
            refine s_aload_n (pc := 42) 0 dX12_whyNot_42 rfl rfl ?_
            refine s_iload_n (pc := 43) 1 dX12_whyNot_43 rfl rfl ?_
            refine s_iconst (pc := 44) 1 dX12_whyNot_44 kc_1 ?_
            refine s_grd (fun o19 => ?_)
            refine s_bind (fun q20 hq21 => ?_)
            have hC22 := t_X12_fact (l := xl X) (G := xG X) hq21
            refine s_callV (pc := 45) (As := [.int p1, .int 1]) (st := [.int p2]) (nlt rfl) (q := (RX12, TX12, 59)) rfl rfl o19 cl_X12_fact wi_X12_fact wl_X12_fact km_X12_194 rfl rfl (nle rfl) (nle rfl) (nle rfl) dX12_whyNot_45 hC22 ?_
            show S0 X _ M 48 [some (.ref (gh (xG X) + a0)), some (.int p1), some (.int p2), none] [.int q20, .int p2] _
            refine s_icge (pc := 48) 54 dX12_whyNot_48 rfl ?_ ?_
            · exact s_drop (hj14 () Le.rf) (And.intro rfl trivial)
            · refine s_bipush (pc := 51) (-3) dX12_whyNot_51 kb_m3 ?_
              exact s_iret rfl dX12_whyNot_53
      · refine s_iceq (pc := 22) 36 dX12_whyNot_22 rfl ?_ ?_
        · exact s_drop (hj10 () Le.rf) (And.intro rfl (And.intro rfl (And.intro rfl trivial)))
        · refine s_aload_n (pc := 25) 0 dX12_whyNot_25 rfl rfl ?_
          refine s_iload_n (pc := 26) 1 dX12_whyNot_26 rfl rfl ?_
          refine s_grd (fun o23 => ?_)
          refine s_bind (fun q24 hq25 => ?_)
          have hC26 := t_X12_isHouse (l := xl X) (G := xG X) hq25
          refine s_callV (pc := 27) (As := [.int p1]) (st := []) (nlt rfl) (q := (RX12, TX12, 59)) rfl rfl o23 cl_X12_isHouse wi_X12_isHouse wl_X12_isHouse km_X12_191 rfl rfl (nle rfl) (nle rfl) (nle rfl) dX12_whyNot_27 hC26 ?_
          show S0 X _ M 30 [some (.ref (gh (xG X) + a0)), some (.int p1), some (.int p2), some (.int p3)] [.int q24] _
          refine s_ifne (pc := 30) 36 dX12_whyNot_30 rfl ?_ ?_
          · exact s_drop (hj10 () Le.rf) (And.intro rfl (And.intro rfl (And.intro rfl trivial)))
          · refine s_bipush (pc := 33) (-2) dX12_whyNot_33 kb_m2 ?_
            exact s_iret rfl dX12_whyNot_35
    · refine s_iconst (pc := 18) (-1) dX12_whyNot_18 kc_m1 ?_
      exact s_iret rfl dX12_whyNot_19
set_option maxRecDepth 100000 in
set_option maxHeartbeats 8000000 in
noncomputable def f_X1_take (M : Mem) (a0 : Nat) (p1 : Int32) : Option Mem :=
  grd (okO M 1 a0) (Option.bind (mR M a0 2) (fun r2 => grd (okO M 6 r2) (Option.bind (f_X6_load M r2 p1) (fun q4 => some q4))))
abbrev Y_X1_take : Sta := (RX1, "take", cX1_take, 2, none, 3)
set_option maxRecDepth 100000 in
set_option maxHeartbeats 8000000 in
theorem t_X1_take {l : Launch} {G : Gh} {M : Mem} {a0 : Nat} {p1 : Int32} {q : Mem} (h : f_X1_take M a0 p1 = some q) : Ctr l G yX1_take Y_X1_take M [.ref (gh G + a0), .int p1] q (none) := by
  refine Ctr.of (Y := Y_X1_take) (L := [some (.ref (gh G + a0)), some (.int p1)]) (t := Option.bind (f_X1_take M a0 p1) (fun q => some (q, (none : Option Value)))) (by decide) rfl rfl (nle rfl) (Lof_in 0 _ rfl) (fun X hG hl => ?_) (by rw [h]; rfl)
  subst hG
  subst hl
  unfold f_X1_take
  refine s_aload_n (pc := 0) 0 dX1_take_0 rfl rfl ?_
  refine s_grd (fun o1 => ?_)
  refine s_geto (pc := 1) F_1 2 rfl o1 dX1_take_1 kf_X1_12 ?_
  refine s_rvB (fun r2 => ?_)
  refine s_iload_n (pc := 4) 1 dX1_take_4 rfl rfl ?_
  refine s_grd (fun o3 => ?_)
  refine s_bind (fun q4 hq5 => ?_)
  have hC6 := t_X6_load (l := xl X) (G := xG X) hq5
  refine s_callV (pc := 5) (As := [.int p1]) (st := []) (nlt rfl) (q := (RX6, TX6, 4)) rfl rfl o3 cl_X6_load wi_X6_load wl_X6_load km_X1_33 rfl rfl (nle rfl) (nle rfl) (nle rfl) dX1_take_5 hC6 ?_
  have h7 := hC6.1 X
  have o8 := h7.ok o1
  show S0 X _ q4 8 [some (.ref (gh (xG X) + a0)), some (.int p1)] [] _
  exact s_vret rfl dX1_take_8
set_option maxRecDepth 100000 in
set_option maxHeartbeats 8000000 in
noncomputable def f_X4_tableTo (M : Mem) (a0 : Nat) (p1 : Int32) (p2 : Int32) : Option (Mem × Nat) :=
  grd (okO M 4 a0) (Option.bind (mR M a0 1) (fun r2 => grd (okO M 8 r2) (Option.bind (f_X8_open M r2 p2) (fun q4 => Option.bind (loopO (σ := Int32) (ρ := Unit ⊕ Nat) (fun s9 => if 3 ≤ s9 then (some (.inr (.inl ()))) else (Option.bind (mR q4 a0 2) (fun r21 => grd (okO q4 18 r21) (grd (vp_in s9 (mL q4 r21)) (ncase (mR q4 r21 s9.toNatClampNeg) (bv (fun (s26 : Unit) => bv (s9 + 1 : Int32) (fun x29 => some (.inl x29))) (fun j25 => j25 ())) (fun r24 => bv (fun (s31 : Unit) => bv (s9 + 1 : Int32) (fun x34 => some (.inl x34))) (fun j30 => grd (okO q4 2 r24) (Option.bind (f_X2_isOf q4 r24 p1 p2) (fun q36 => if q36 = 0 then (j30 ()) else (some (.inr (.inr r24)))))))))))) 0) (Sum.elim (fun (x17 : Unit) => bv (wI q4 a0 3 (ir ((mI q4 a0 3) + 1) 3)) (fun M39 => Option.bind (mR M39 a0 2) (fun r43 => grd (okO M39 18 r43) (grd (vp_in (mI M39 a0 3) (mL M39 r43)) (ncase (mR M39 r43 (mI M39 a0 3).toNatClampNeg) (bv (fun (s48 : Mem) => Option.bind (mR s48 a0 2) (fun r52 => grd (okO s48 18 r52) (grd (vp_in (mI s48 a0 3) (mL s48 r52)) (Option.bind (mR s48 r52 (mI s48 a0 3).toNatClampNeg) (fun r55 => grd (okO s48 2 r55) (Option.bind (f_X2_begin s48 r55 p1 p2) (fun q57 => Option.bind (mR q57 a0 2) (fun r62 => grd (okO q57 18 r62) (grd (vp_in (mI q57 a0 3) (mL q57 r62)) (Option.bind (mR q57 r62 (mI q57 a0 3).toNatClampNeg) (fun r65 => some (q57, r65)))))))))))) (fun j47 => Option.bind (mR M39 a0 2) (fun r66 => bv (nO M39 2 11) (fun M67 => Option.bind (mR M67 a0 0) (fun r72 => Option.bind (mR M67 a0 1) (fun r73 => Option.bind (f_X2_init M67 (mn M39) r72 r73) (fun q74 => grd (okO q74 18 r66) (grd (vp_in (mI M39 a0 3) (mL q74 r66)) (bv (wR q74 r66 (mI M39 a0 3).toNatClampNeg (some (mn M39))) (fun M82 => j47 M82)))))))))) (fun r46 => bv (fun (s87 : Mem) => Option.bind (mR s87 a0 2) (fun r91 => grd (okO s87 18 r91) (grd (vp_in (mI s87 a0 3) (mL s87 r91)) (Option.bind (mR s87 r91 (mI s87 a0 3).toNatClampNeg) (fun r94 => grd (okO s87 2 r94) (Option.bind (f_X2_begin s87 r94 p1 p2) (fun q96 => Option.bind (mR q96 a0 2) (fun r101 => grd (okO q96 18 r101) (grd (vp_in (mI q96 a0 3) (mL q96 r101)) (Option.bind (mR q96 r101 (mI q96 a0 3).toNatClampNeg) (fun r104 => some (q96, r104)))))))))))) (fun j86 => j86 M39))))))) (fun (x19 : Nat) => some (q4, x19)))))))
abbrev Y_X4_tableTo : Sta := (RX4, "tableTo", cX4_tableTo, 5, (some (.object "DishLines$Distances")), 3)
set_option maxRecDepth 100000 in
set_option maxHeartbeats 8000000 in
theorem t_X4_tableTo {l : Launch} {G : Gh} {M : Mem} {a0 : Nat} {p1 : Int32} {p2 : Int32} {q : Mem × Nat} (h : f_X4_tableTo M a0 p1 p2 = some q) : Ctr l G yX4_tableTo Y_X4_tableTo M [.ref (gh G + a0), .int p1, .int p2] q.1 (some (.ref (gh G + q.2))) := by
  refine Ctr.of (Y := Y_X4_tableTo) (L := [some (.ref (gh G + a0)), some (.int p1), some (.int p2), none, none]) (t := Option.bind (f_X4_tableTo M a0 p1 p2) (fun q => some (q.1, some (.ref (gh G + q.2))))) (by decide) rfl rfl (nle rfl) (Lof_in 2 _ rfl) (fun X hG hl => ?_) (by rw [h]; rfl)
  subst hG
  subst hl
  unfold f_X4_tableTo
  refine s_aload_n (pc := 0) 0 dX4_tableTo_0 rfl rfl ?_
  refine s_grd (fun o1 => ?_)
  refine s_geto (pc := 1) F_4 1 rfl o1 dX4_tableTo_1 kf_X4_21 ?_
  refine s_rvB (fun r2 => ?_)
  refine s_iload_n (pc := 4) 2 dX4_tableTo_4 rfl rfl ?_
  refine s_grd (fun o3 => ?_)
  refine s_bind (fun q4 hq5 => ?_)
  have hC6 := t_X8_open (l := xl X) (G := xG X) hq5
  refine s_callV (pc := 5) (As := [.int p2]) (st := []) (nlt rfl) (q := (RX8, TX8, 7)) rfl rfl o3 cl_X8_open wi_X8_open wl_X8_open km_X4_25 rfl rfl (nle rfl) (nle rfl) (nle rfl) dX4_tableTo_5 hC6 ?_
  have h7 := hC6.1 X
  have o8 := h7.ok o1
  show S0 X _ q4 8 [some (.ref (gh (xG X) + a0)), some (.int p1), some (.int p2), none, none] [] _
  refine s_iconst (pc := 8) 0 dX4_tableTo_8 kc_0 ?_
  refine s_istore_n (pc := 9) 3 dX4_tableTo_9 rfl (nlt rfl) rfl (L' := [some (.ref (gh (xG X) + a0)), some (.int p1), some (.int p2), some (.int 0), none]) rfl ?_
  refine s_drop (L' := [some (.ref (gh (xG X) + a0)), some (.int p1), some (.int p2), some (.int 0), none]) ?_ (And.intro rfl (And.intro rfl (And.intro rfl (And.intro rfl trivial))))
  refine s_loop2 q4 (fun s9 : Int32 => q4) (fun s9 : Int32 => [some (.ref (gh (xG X) + a0)), some (.int p1), some (.int p2), some (.int s9), none]) (fun x17 : Unit => q4) 47 (fun x17 : Unit => [some (.ref (gh (xG X) + a0)), some (.int p1), some (.int p2), none, none]) (fun x19 : Nat => q4) 38 (fun x19 : Nat => [none, none, none, none, some (.ref (gh (xG X) + x19))]) (fun x17 hx18 => ?_) (fun x19 hx20 => ?_) (fun T11 R13 R15 hT12 hR14 hR16 s9 hs10 => ?_) 0 Le.rf
  · show S0 X _ q4 47 [some (.ref (gh (xG X) + a0)), some (.int p1), some (.int p2), none, none] [] _
    refine s_aload_n (pc := 47) 0 dX4_tableTo_47 rfl rfl ?_
    refine s_aload_n (pc := 48) 0 dX4_tableTo_48 rfl rfl ?_
    refine s_geti (pc := 49) F_4 3 rfl o8 dX4_tableTo_49 kf_X4_35 ?_
    refine s_iconst (pc := 52) 1 dX4_tableTo_52 kc_1 ?_
    refine s_iadd (pc := 53) dX4_tableTo_53 ?_
    refine s_iconst (pc := 54) 3 dX4_tableTo_54 kc_3 ?_
    refine s_irem (pc := 55) dX4_tableTo_55 (by decide) ?_
    refine s_puti (pc := 56) F_4 3 rfl o8 rfl rfl rfl dX4_tableTo_56 kf_X4_35 (fun M39 hM40 => ?_)
    have h41 := le_wI hM40
    have o42 := h41.ok o8
    refine s_aload_n (pc := 59) 0 dX4_tableTo_59 rfl rfl ?_
    refine s_geto (pc := 60) F_4 2 rfl o42 dX4_tableTo_60 kf_X4_13 ?_
    refine s_rvB (fun r43 => ?_)
    refine s_aload_n (pc := 63) 0 dX4_tableTo_63 rfl rfl ?_
    refine s_geti (pc := 64) F_4 3 rfl o42 dX4_tableTo_64 kf_X4_35 ?_
    refine s_grd (fun o44 => ?_)
    refine s_grd (fun i45 => ?_)
    refine s_aaldo (pc := 67) 18 (by decide) o44 i45 dX4_tableTo_67 ?_
    refine s_rv ?_ (fun r46 => ?_)
    · refine s_join M39 (fun s48 : Mem => s48) 95 (fun s48 : Mem => [some (.ref (gh (xG X) + a0)), some (.int p1), some (.int p2), none, none]) (fun s48 : Mem => []) (fun s48 hs49 => ?_) (fun j47 hj50 => ?_)
      · show S0 X _ s48 95 [some (.ref (gh (xG X) + a0)), some (.int p1), some (.int p2), none, none] [] _
        have o51 := hs49.ok o42
        refine s_aload_n (pc := 95) 0 dX4_tableTo_95 rfl rfl ?_
        refine s_geto (pc := 96) F_4 2 rfl o51 dX4_tableTo_96 kf_X4_13 ?_
        refine s_rvB (fun r52 => ?_)
        refine s_aload_n (pc := 99) 0 dX4_tableTo_99 rfl rfl ?_
        refine s_geti (pc := 100) F_4 3 rfl o51 dX4_tableTo_100 kf_X4_35 ?_
        refine s_grd (fun o53 => ?_)
        refine s_grd (fun i54 => ?_)
        refine s_aaldo (pc := 103) 18 (by decide) o53 i54 dX4_tableTo_103 ?_
        refine s_rvB (fun r55 => ?_)
        refine s_iload_n (pc := 104) 1 dX4_tableTo_104 rfl rfl ?_
        refine s_iload_n (pc := 105) 2 dX4_tableTo_105 rfl rfl ?_
        refine s_grd (fun o56 => ?_)
        refine s_bind (fun q57 hq58 => ?_)
        have hC59 := t_X2_begin (l := xl X) (G := xG X) hq58
        refine s_callV (pc := 106) (As := [.int p1, .int p2]) (st := []) (nlt rfl) (q := (RX2, TX2, 11)) rfl rfl o56 cl_X2_begin wi_X2_begin wl_X2_begin km_X4_42 rfl rfl (nle rfl) (nle rfl) (nle rfl) dX4_tableTo_106 hC59 ?_
        have h60 := hC59.1 X
        have o61 := h60.ok o51
        show S0 X _ q57 109 [some (.ref (gh (xG X) + a0)), some (.int p1), some (.int p2), none, none] [] _
        refine s_aload_n (pc := 109) 0 dX4_tableTo_109 rfl rfl ?_
        refine s_geto (pc := 110) F_4 2 rfl o61 dX4_tableTo_110 kf_X4_13 ?_
        refine s_rvB (fun r62 => ?_)
        refine s_aload_n (pc := 113) 0 dX4_tableTo_113 rfl rfl ?_
        refine s_geti (pc := 114) F_4 3 rfl o61 dX4_tableTo_114 kf_X4_35 ?_
        refine s_grd (fun o63 => ?_)
        refine s_grd (fun i64 => ?_)
        refine s_aaldo (pc := 117) 18 (by decide) o63 i64 dX4_tableTo_117 ?_
        refine s_rvB (fun r65 => ?_)
        exact s_aret rfl (Or.inl ⟨_, rfl⟩) ref_or dX4_tableTo_118
      · refine s_nonnullF (pc := 68) dX4_tableTo_68 ?_
        refine s_aload_n (pc := 71) 0 dX4_tableTo_71 rfl rfl ?_
        refine s_geto (pc := 72) F_4 2 rfl o42 dX4_tableTo_72 kf_X4_13 ?_
        refine s_rvB (fun r66 => ?_)
        refine s_aload_n (pc := 75) 0 dX4_tableTo_75 rfl rfl ?_
        refine s_geti (pc := 76) F_4 3 rfl o42 dX4_tableTo_76 kf_X4_35 ?_
        refine s_new (pc := 79) F_2 kk_X4_11 dX4_tableTo_79 (fun M67 hM68 => ?_)
        have h69 := le_nO hM68
        have o70 := h69.ok o42
        have o71 := ok_nO hM68
        refine s_dup (pc := 82) dX4_tableTo_82 rfl ?_
        refine s_aload_n (pc := 83) 0 dX4_tableTo_83 rfl rfl ?_
        refine s_geto (pc := 84) F_4 0 rfl o70 dX4_tableTo_84 kf_X4_17 ?_
        refine s_rvB (fun r72 => ?_)
        refine s_aload_n (pc := 87) 0 dX4_tableTo_87 rfl rfl ?_
        refine s_geto (pc := 88) F_4 1 rfl o70 dX4_tableTo_88 kf_X4_21 ?_
        refine s_rvB (fun r73 => ?_)
        refine s_bind (fun q74 hq75 => ?_)
        have hC76 := t_X2_init (l := xl X) (G := xG X) hq75
        refine s_callI (pc := 91) (As := [.ref (gh (xG X) + r72), .ref (gh (xG X) + r73)]) (st := [.ref (gh (xG X) + (mn M39)), .int (mI M39 a0 3), .ref (gh (xG X) + r66)]) rfl rfl cl_X2_init wi_X2_init km_X4_39 rfl rfl (nle rfl) (nle rfl) (nle rfl) dX4_tableTo_91 hC76 ?_
        have h77 := hC76.1 X
        have o78 := h77.ok o70
        have o79 := h77.ok o71
        show S0 X _ q74 94 [some (.ref (gh (xG X) + a0)), some (.int p1), some (.int p2), none, none] [.ref (gh (xG X) + (mn M39)), .int (mI M39 a0 3), .ref (gh (xG X) + r66)] _
        refine s_grd (fun o80 => ?_)
        refine s_grd (fun i81 => ?_)
        refine s_aast (pc := 94) (k := 18) (ci := 2) (t0 := 5) (r := (RX2, TX2, 11)) (by decide) (fun _ => rfl) rfl (nlt rfl) o80 i81 o79 dX4_tableTo_94 (fun M82 hM83 => ?_)
        have h84 := le_wR hM83
        have o85 := h84.ok o78
        exact s_drop (hj50 M82 (h69.tr (h77.tr h84))) (And.intro rfl (And.intro rfl (And.intro rfl trivial)))
    · refine s_join M39 (fun s87 : Mem => s87) 95 (fun s87 : Mem => [some (.ref (gh (xG X) + a0)), some (.int p1), some (.int p2), none, none]) (fun s87 : Mem => []) (fun s87 hs88 => ?_) (fun j86 hj89 => ?_)
      · show S0 X _ s87 95 [some (.ref (gh (xG X) + a0)), some (.int p1), some (.int p2), none, none] [] _
        have o90 := hs88.ok o42
        refine s_aload_n (pc := 95) 0 dX4_tableTo_95 rfl rfl ?_
        refine s_geto (pc := 96) F_4 2 rfl o90 dX4_tableTo_96 kf_X4_13 ?_
        refine s_rvB (fun r91 => ?_)
        refine s_aload_n (pc := 99) 0 dX4_tableTo_99 rfl rfl ?_
        refine s_geti (pc := 100) F_4 3 rfl o90 dX4_tableTo_100 kf_X4_35 ?_
        refine s_grd (fun o92 => ?_)
        refine s_grd (fun i93 => ?_)
        refine s_aaldo (pc := 103) 18 (by decide) o92 i93 dX4_tableTo_103 ?_
        refine s_rvB (fun r94 => ?_)
        refine s_iload_n (pc := 104) 1 dX4_tableTo_104 rfl rfl ?_
        refine s_iload_n (pc := 105) 2 dX4_tableTo_105 rfl rfl ?_
        refine s_grd (fun o95 => ?_)
        refine s_bind (fun q96 hq97 => ?_)
        have hC98 := t_X2_begin (l := xl X) (G := xG X) hq97
        refine s_callV (pc := 106) (As := [.int p1, .int p2]) (st := []) (nlt rfl) (q := (RX2, TX2, 11)) rfl rfl o95 cl_X2_begin wi_X2_begin wl_X2_begin km_X4_42 rfl rfl (nle rfl) (nle rfl) (nle rfl) dX4_tableTo_106 hC98 ?_
        have h99 := hC98.1 X
        have o100 := h99.ok o90
        show S0 X _ q96 109 [some (.ref (gh (xG X) + a0)), some (.int p1), some (.int p2), none, none] [] _
        refine s_aload_n (pc := 109) 0 dX4_tableTo_109 rfl rfl ?_
        refine s_geto (pc := 110) F_4 2 rfl o100 dX4_tableTo_110 kf_X4_13 ?_
        refine s_rvB (fun r101 => ?_)
        refine s_aload_n (pc := 113) 0 dX4_tableTo_113 rfl rfl ?_
        refine s_geti (pc := 114) F_4 3 rfl o100 dX4_tableTo_114 kf_X4_35 ?_
        refine s_grd (fun o102 => ?_)
        refine s_grd (fun i103 => ?_)
        refine s_aaldo (pc := 117) 18 (by decide) o102 i103 dX4_tableTo_117 ?_
        refine s_rvB (fun r104 => ?_)
        exact s_aret rfl (Or.inl ⟨_, rfl⟩) ref_or dX4_tableTo_118
      · refine s_nonnullT (pc := 68) 95 dX4_tableTo_68 rfl ?_
        exact s_drop (hj89 M39 Le.rf) (And.intro rfl (And.intro rfl (And.intro rfl trivial)))
  · show S0 X _ q4 38 [none, none, none, none, some (.ref (gh (xG X) + x19))] [] _
    refine s_aload (pc := 38) dX4_tableTo_38 rfl ?_
    exact s_aret rfl (Or.inl ⟨_, rfl⟩) ref_or dX4_tableTo_40
  · show S0 X _ q4 10 [some (.ref (gh (xG X) + a0)), some (.int p1), some (.int p2), some (.int s9), none] [] _
    refine s_iload_n (pc := 10) 3 dX4_tableTo_10 rfl rfl ?_
    refine s_iconst (pc := 11) 3 dX4_tableTo_11 kc_3 ?_
    refine s_icge (pc := 12) 47 dX4_tableTo_12 rfl ?_ ?_
    · exact s_drop (hR14 () Le.rf) (And.intro rfl (And.intro rfl (And.intro rfl trivial)))
    · refine s_aload_n (pc := 15) 0 dX4_tableTo_15 rfl rfl ?_
      refine s_geto (pc := 16) F_4 2 rfl o8 dX4_tableTo_16 kf_X4_13 ?_
      refine s_rvB (fun r21 => ?_)
      refine s_iload_n (pc := 19) 3 dX4_tableTo_19 rfl rfl ?_
      refine s_grd (fun o22 => ?_)
      refine s_grd (fun i23 => ?_)
      refine s_aaldo (pc := 20) 18 (by decide) o22 i23 dX4_tableTo_20 ?_
      refine s_rv ?_ (fun r24 => ?_)
      · refine s_astoreN (pc := 21) dX4_tableTo_21 (nlt rfl) rfl (L' := [some (.ref (gh (xG X) + a0)), some (.int p1), some (.int p2), some (.int s9), some (.null)]) rfl ?_
        refine s_aloadN (pc := 23) dX4_tableTo_23 rfl ?_
        refine s_join q4 (fun s26 : Unit => q4) 41 (fun s26 : Unit => [some (.ref (gh (xG X) + a0)), some (.int p1), some (.int p2), some (.int s9), none]) (fun s26 : Unit => []) (fun s26 hs27 => ?_) (fun j25 hj28 => ?_)
        · show S0 X _ q4 41 [some (.ref (gh (xG X) + a0)), some (.int p1), some (.int p2), some (.int s9), none] [] _
          refine s_iinc (pc := 41) dX4_tableTo_41 rfl (v := s9 + 1) (congrArg (fun z : Int32 => s9 + z) kc_1) (nlt rfl) rfl (L' := [some (.ref (gh (xG X) + a0)), some (.int p1), some (.int p2), some (.int (s9 + 1)), none]) rfl ?_
          refine s_bv (fun x29 : Int32 => [some (.ref (gh (xG X) + a0)), some (.int p1), some (.int p2), some (.int x29), none]) (fun x29 => ?_) rfl
          refine s_goto (pc := 44) 10 dX4_tableTo_44 rfl ?_
          exact s_drop (hT12 x29 Le.rf) (And.intro rfl (And.intro rfl (And.intro rfl (And.intro rfl trivial))))
        · refine s_nullT (pc := 25) 41 dX4_tableTo_25 rfl ?_
          exact s_drop (hj28 () Le.rf) (And.intro rfl (And.intro rfl (And.intro rfl (And.intro rfl trivial))))
      · refine s_astore (pc := 21) dX4_tableTo_21 (nlt rfl) rfl (L' := [some (.ref (gh (xG X) + a0)), some (.int p1), some (.int p2), some (.int s9), some (.ref (gh (xG X) + r24))]) rfl ?_
        refine s_aload (pc := 23) dX4_tableTo_23 rfl ?_
        refine s_join q4 (fun s31 : Unit => q4) 41 (fun s31 : Unit => [some (.ref (gh (xG X) + a0)), some (.int p1), some (.int p2), some (.int s9), none]) (fun s31 : Unit => []) (fun s31 hs32 => ?_) (fun j30 hj33 => ?_)
        · show S0 X _ q4 41 [some (.ref (gh (xG X) + a0)), some (.int p1), some (.int p2), some (.int s9), none] [] _
          refine s_iinc (pc := 41) dX4_tableTo_41 rfl (v := s9 + 1) (congrArg (fun z : Int32 => s9 + z) kc_1) (nlt rfl) rfl (L' := [some (.ref (gh (xG X) + a0)), some (.int p1), some (.int p2), some (.int (s9 + 1)), none]) rfl ?_
          refine s_bv (fun x34 : Int32 => [some (.ref (gh (xG X) + a0)), some (.int p1), some (.int p2), some (.int x34), none]) (fun x34 => ?_) rfl
          refine s_goto (pc := 44) 10 dX4_tableTo_44 rfl ?_
          exact s_drop (hT12 x34 Le.rf) (And.intro rfl (And.intro rfl (And.intro rfl (And.intro rfl trivial))))
        · refine s_nullF (pc := 25) dX4_tableTo_25 ?_
          refine s_aload (pc := 28) dX4_tableTo_28 rfl ?_
          refine s_iload_n (pc := 30) 1 dX4_tableTo_30 rfl rfl ?_
          refine s_iload_n (pc := 31) 2 dX4_tableTo_31 rfl rfl ?_
          refine s_grd (fun o35 => ?_)
          refine s_bind (fun q36 hq37 => ?_)
          have hC38 := t_X2_isOf (l := xl X) (G := xG X) hq37
          refine s_callV (pc := 32) (As := [.int p1, .int p2]) (st := []) (nlt rfl) (q := (RX2, TX2, 11)) rfl rfl o35 cl_X2_isOf wi_X2_isOf wl_X2_isOf km_X4_31 rfl rfl (nle rfl) (nle rfl) (nle rfl) dX4_tableTo_32 hC38 ?_
          show S0 X _ q4 35 [some (.ref (gh (xG X) + a0)), some (.int p1), some (.int p2), some (.int s9), some (.ref (gh (xG X) + r24))] [.int q36] _
          refine s_ifeq (pc := 35) 41 dX4_tableTo_35 rfl ?_ ?_
          · exact s_drop (hj33 () Le.rf) (And.intro rfl (And.intro rfl (And.intro rfl (And.intro rfl trivial))))
          · exact s_drop (hR16 r24 Le.rf) (And.intro rfl trivial)
set_option maxRecDepth 100000 in
set_option maxHeartbeats 8000000 in
noncomputable def f_X6_doubled (M : Mem) (a0 : Nat) (p1 : Int32) : Option Int32 :=
  grd (okO M 6 a0) (Option.bind (f_X6_hasPlace M a0 p1) (fun q2 => if q2 = 0 then (some (-1)) else (Option.bind (mR M a0 0) (fun r5 => grd (okO M 14 r5) (grd (vp_in p1 (mL M r5)) (Option.bind (f_X6_with M a0 p1 (mI M r5 p1.toNatClampNeg)) (fun q8 => some q8)))))))
abbrev Y_X6_doubled : Sta := (RX6, "doubled", cX6_doubled, 2, (some .int), 3)
set_option maxRecDepth 100000 in
set_option maxHeartbeats 8000000 in
theorem t_X6_doubled {l : Launch} {G : Gh} {M : Mem} {a0 : Nat} {p1 : Int32} {q : Int32} (h : f_X6_doubled M a0 p1 = some q) : Ctr l G yX6_doubled Y_X6_doubled M [.ref (gh G + a0), .int p1] M (some (.int q)) := by
  refine Ctr.of (Y := Y_X6_doubled) (L := [some (.ref (gh G + a0)), some (.int p1)]) (t := Option.bind (f_X6_doubled M a0 p1) (fun q => some (M, some (.int q)))) (by decide) rfl rfl (nle rfl) (Lof_in 0 _ rfl) (fun X hG hl => ?_) (by rw [h]; rfl)
  subst hG
  subst hl
  unfold f_X6_doubled
  refine s_aload_n (pc := 0) 0 dX6_doubled_0 rfl rfl ?_
  refine s_iload_n (pc := 1) 1 dX6_doubled_1 rfl rfl ?_
  refine s_grd (fun o1 => ?_)
  refine s_bind (fun q2 hq3 => ?_)
  have hC4 := t_X6_hasPlace (l := xl X) (G := xG X) hq3
  refine s_callV (pc := 2) (As := [.int p1]) (st := []) (nlt rfl) (q := (RX6, TX6, 4)) rfl rfl o1 cl_X6_hasPlace wi_X6_hasPlace wl_X6_hasPlace km_X6_36 rfl rfl (nle rfl) (nle rfl) (nle rfl) dX6_doubled_2 hC4 ?_
  show S0 X _ M 5 [some (.ref (gh (xG X) + a0)), some (.int p1)] [.int q2] _
  refine s_ifeq (pc := 5) 22 dX6_doubled_5 rfl ?_ ?_
  · refine s_iconst (pc := 22) (-1) dX6_doubled_22 kc_m1 ?_
    exact s_iret rfl dX6_doubled_23
  · refine s_aload_n (pc := 8) 0 dX6_doubled_8 rfl rfl ?_
    refine s_iload_n (pc := 9) 1 dX6_doubled_9 rfl rfl ?_
    refine s_aload_n (pc := 10) 0 dX6_doubled_10 rfl rfl ?_
    refine s_geto (pc := 11) F_6 0 rfl o1 dX6_doubled_11 kf_X6_9 ?_
    refine s_rvB (fun r5 => ?_)
    refine s_iload_n (pc := 14) 1 dX6_doubled_14 rfl rfl ?_
    refine s_grd (fun o6 => ?_)
    refine s_grd (fun i7 => ?_)
    refine s_iald (pc := 15) o6 i7 dX6_doubled_15 ?_
    refine s_bind (fun q8 hq9 => ?_)
    have hC10 := t_X6_with (l := xl X) (G := xG X) hq9
    refine s_callV (pc := 16) (As := [.int p1, .int (mI M r5 p1.toNatClampNeg)]) (st := []) (nlt rfl) (q := (RX6, TX6, 4)) rfl rfl o1 cl_X6_with wi_X6_with wl_X6_with km_X6_43 rfl rfl (nle rfl) (nle rfl) (nle rfl) dX6_doubled_16 hC10 ?_
    show S0 X _ M 19 [some (.ref (gh (xG X) + a0)), some (.int p1)] [.int q8] _
    refine s_goto (pc := 19) 23 dX6_doubled_19 rfl ?_
    exact s_iret rfl dX6_doubled_23
abbrev Y_X7_inSquare (d : Nat) : Sta := (RX7, "inSquare", cX7_inSquare, 2, (some .boolean), 3 + d)
abbrev Y_X7_part (d : Nat) : Sta := (RX7, "part", cX7_part, 3, (some .boolean), 3 + d)
abbrev Y_X7_sum (d : Nat) : Sta := (RX7, "sum", cX7_sum, 4, (some .boolean), 3 + d)
abbrev Y_X7_term (d : Nat) : Sta := (RX7, "term", cX7_term, 4, (some .boolean), 3 + d)
set_option maxRecDepth 100000 in
set_option maxHeartbeats 8000000 in
noncomputable def b_X7_inSquare (g_X7_sum : Mem → Nat → Int32 → Option (Mem × Int32)) (M : Mem) (a0 : Nat) (p1 : Int32) : Option (Mem × Int32) :=
  if p1 < 8 then (grd (okO M 7 a0) (Option.bind (f_X7_next M a0) (fun q2 => Option.bind (g_X7_sum q2 a0 (p1 + 1)) (fun q7 => if q7.2 = 0 then (some (q7.1, 0)) else (if (mI q7.1 a0 8) = 93 then (Option.bind (f_X7_next q7.1 a0) (fun q12 => some (q12, 1))) else (Option.bind (f_X7_fail q7.1 a0) (fun q17 => grd (bl q17.2) (some (q17.1, q17.2))))))))) else (grd (okO M 7 a0) (Option.bind (f_X7_fail M a0) (fun q24 => grd (bl q24.2) (some (q24.1, q24.2)))))
set_option maxRecDepth 100000 in
set_option maxHeartbeats 8000000 in
theorem t_X7_inSquare {d : Nat} {g_X7_sum : Mem → Nat → Int32 → Option (Mem × Int32)} {l : Launch} {G : Gh} {M : Mem} {a0 : Nat} {p1 : Int32} {q : Mem × Int32} (hg_X7_sum : ∀ X : Ctx, xG X = G → xl X = l → ∀ (M : Mem) (a0 : Nat) (p1 : Int32) (q : Mem × Int32), g_X7_sum M a0 p1 = some q → Ctr (xl X) (xG X) yX7_sum (Y_X7_sum d) M [.ref (gh (xG X) + a0), .int p1] q.1 (some (.int q.2))) (h : b_X7_inSquare g_X7_sum M a0 p1 = some q) : Ctr l G yX7_inSquare (Y_X7_inSquare (d + 1)) M [.ref (gh G + a0), .int p1] q.1 (some (.int q.2)) := by
  refine Ctr.of (Y := (Y_X7_inSquare (d + 1))) (L := [some (.ref (gh G + a0)), some (.int p1)]) (t := Option.bind (b_X7_inSquare g_X7_sum M a0 p1) (fun q => some (q.1, some (.int q.2)))) (by decide) rfl rfl (nle rfl) (Lof_in 0 _ rfl) (fun X hG hl => ?_) (by rw [h]; rfl)
  subst hG
  subst hl
  unfold b_X7_inSquare
  refine s_iload_n (pc := 0) 1 dX7_inSquare_0 rfl rfl ?_
  refine s_bipush (pc := 1) 8 dX7_inSquare_1 kb_8 ?_
  refine s_iclt (pc := 3) 11 dX7_inSquare_3 rfl ?_ ?_
  · refine s_aload_n (pc := 11) 0 dX7_inSquare_11 rfl rfl ?_
    refine s_grd (fun o1 => ?_)
    refine s_bind (fun q2 hq3 => ?_)
    have hC4 := t_X7_next (l := xl X) (G := xG X) hq3
    refine s_callV (pc := 12) (As := []) (st := []) (nlt rfl) (q := (RX7, TX7, 10)) rfl rfl o1 cl_X7_next wi_X7_next wl_X7_next km_X7_79 rfl rfl (Nat.le_trans (nle rfl : _ ≤ 3) (Nat.le_add_right 3 _)) (nle rfl) (nle rfl) dX7_inSquare_12 hC4 ?_
    have h5 := hC4.1 X
    have o6 := h5.ok o1
    show S0 X _ q2 15 [some (.ref (gh (xG X) + a0)), some (.int p1)] [] _
    refine s_aload_n (pc := 15) 0 dX7_inSquare_15 rfl rfl ?_
    refine s_iload_n (pc := 16) 1 dX7_inSquare_16 rfl rfl ?_
    refine s_iconst (pc := 17) 1 dX7_inSquare_17 kc_1 ?_
    refine s_iadd (pc := 18) dX7_inSquare_18 ?_
    refine s_bind (fun q7 hq8 => ?_)
    have hC9 := hg_X7_sum X rfl rfl q2 a0 (p1 + 1) q7 hq8
    refine s_callV (pc := 19) (As := [.int (p1 + 1)]) (st := []) (nlt rfl) (q := (RX7, TX7, 10)) rfl rfl o6 cl_X7_sum wi_X7_sum wl_X7_sum km_X7_137 rfl rfl (Nat.le_refl _) (nle rfl) (nle rfl) dX7_inSquare_19 hC9 ?_
    have h10 := hC9.1 X
    have o11 := h10.ok o6
    show S0 X _ q7.1 22 [some (.ref (gh (xG X) + a0)), some (.int p1)] [.int q7.2] _
    refine s_ifne (pc := 22) 27 dX7_inSquare_22 rfl ?_ ?_
    · refine s_aload_n (pc := 27) 0 dX7_inSquare_27 rfl rfl ?_
      refine s_geti (pc := 28) F_7 8 rfl o11 dX7_inSquare_28 kf_X7_66 ?_
      refine s_bipush (pc := 31) 93 dX7_inSquare_31 kb_93 ?_
      refine s_iceq (pc := 33) 41 dX7_inSquare_33 rfl ?_ ?_
      · refine s_aload_n (pc := 41) 0 dX7_inSquare_41 rfl rfl ?_
        refine s_bind (fun q12 hq13 => ?_)
        have hC14 := t_X7_next (l := xl X) (G := xG X) hq13
        refine s_callV (pc := 42) (As := []) (st := []) (nlt rfl) (q := (RX7, TX7, 10)) rfl rfl o11 cl_X7_next wi_X7_next wl_X7_next km_X7_79 rfl rfl (Nat.le_trans (nle rfl : _ ≤ 3) (Nat.le_add_right 3 _)) (nle rfl) (nle rfl) dX7_inSquare_42 hC14 ?_
        have h15 := hC14.1 X
        have o16 := h15.ok o11
        show S0 X _ q12 45 [some (.ref (gh (xG X) + a0)), some (.int p1)] [] _
        refine s_iconst (pc := 45) 1 dX7_inSquare_45 kc_1 ?_
        exact s_zret rfl rfl dX7_inSquare_46
      · refine s_aload_n (pc := 36) 0 dX7_inSquare_36 rfl rfl ?_
        refine s_bind (fun q17 hq18 => ?_)
        have hC19 := t_X7_fail (l := xl X) (G := xG X) hq18
        refine s_callV (pc := 37) (As := []) (st := []) (nlt rfl) (q := (RX7, TX7, 10)) rfl rfl o11 cl_X7_fail wi_X7_fail wl_X7_fail km_X7_76 rfl rfl (Nat.le_trans (nle rfl : _ ≤ 3) (Nat.le_add_right 3 _)) (nle rfl) (nle rfl) dX7_inSquare_37 hC19 ?_
        have h20 := hC19.1 X
        have o21 := h20.ok o11
        show S0 X _ q17.1 40 [some (.ref (gh (xG X) + a0)), some (.int p1)] [.int q17.2] _
        refine s_grd (fun g22 => ?_)
        exact s_zret rfl g22 dX7_inSquare_40
    · refine s_iconst (pc := 25) 0 dX7_inSquare_25 kc_0 ?_
      exact s_zret rfl rfl dX7_inSquare_26
  · refine s_aload_n (pc := 6) 0 dX7_inSquare_6 rfl rfl ?_
    refine s_grd (fun o23 => ?_)
    refine s_bind (fun q24 hq25 => ?_)
    have hC26 := t_X7_fail (l := xl X) (G := xG X) hq25
    refine s_callV (pc := 7) (As := []) (st := []) (nlt rfl) (q := (RX7, TX7, 10)) rfl rfl o23 cl_X7_fail wi_X7_fail wl_X7_fail km_X7_76 rfl rfl (Nat.le_trans (nle rfl : _ ≤ 3) (Nat.le_add_right 3 _)) (nle rfl) (nle rfl) dX7_inSquare_7 hC26 ?_
    have h27 := hC26.1 X
    have o28 := h27.ok o23
    show S0 X _ q24.1 10 [some (.ref (gh (xG X) + a0)), some (.int p1)] [.int q24.2] _
    refine s_grd (fun g29 => ?_)
    exact s_zret rfl g29 dX7_inSquare_10
