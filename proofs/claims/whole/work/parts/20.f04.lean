set_option maxRecDepth 100000 in
set_option maxHeartbeats 8000000 in
noncomputable def f_X12_isDigit (p0 : Int32) : Option Int32 :=
  if p0 < 48 then (some 0) else (if 57 < p0 then (some 0) else (some 1))
abbrev Y_X12_isDigit : Sta := (RX12, "isDigit", cX12_isDigit, 1, (some .boolean), 1)
set_option maxRecDepth 100000 in
set_option maxHeartbeats 8000000 in
theorem t_X12_isDigit {l : Launch} {G : Gh} {M : Mem} {p0 : Int32} {q : Int32} (h : f_X12_isDigit p0 = some q) : Ctr l G yX12_isDigit Y_X12_isDigit M [.int p0] M (some (.int q)) := by
  refine Ctr.of (Y := Y_X12_isDigit) (L := [some (.int p0)]) (t := Option.bind (f_X12_isDigit p0) (fun q => some (M, some (.int q)))) (by decide) rfl rfl (nle rfl) (Lof_in 0 _ rfl) (fun X hG hl => ?_) (by rw [h]; rfl)
  subst hG
  subst hl
  unfold f_X12_isDigit
  refine s_iload_n (pc := 0) 0 dX12_isDigit_0 rfl rfl ?_
  refine s_bipush (pc := 1) 48 dX12_isDigit_1 kb_48 ?_
  refine s_iclt (pc := 3) 16 dX12_isDigit_3 rfl ?_ ?_
  · refine s_iconst (pc := 16) 0 dX12_isDigit_16 kc_0 ?_
    exact s_zret rfl rfl dX12_isDigit_17
  · refine s_iload_n (pc := 6) 0 dX12_isDigit_6 rfl rfl ?_
    refine s_bipush (pc := 7) 57 dX12_isDigit_7 kb_57 ?_
    refine s_icgt (pc := 9) 16 dX12_isDigit_9 rfl ?_ ?_
    · refine s_iconst (pc := 16) 0 dX12_isDigit_16 kc_0 ?_
      exact s_zret rfl rfl dX12_isDigit_17
    · refine s_iconst (pc := 12) 1 dX12_isDigit_12 kc_1 ?_
      refine s_goto (pc := 13) 17 dX12_isDigit_13 rfl ?_
      exact s_zret rfl rfl dX12_isDigit_17
set_option maxRecDepth 100000 in
set_option maxHeartbeats 8000000 in
noncomputable def f_X12_isOne (p0 : Int32) (p1 : Int32) : Option Int32 :=
  if ((sr p0 p1) &&& 1) = 1 then (some 1) else (some 0)
abbrev Y_X12_isOne : Sta := (RX12, "isOne", cX12_isOne, 2, (some .boolean), 1)
set_option maxRecDepth 100000 in
set_option maxHeartbeats 8000000 in
theorem t_X12_isOne {l : Launch} {G : Gh} {M : Mem} {p0 : Int32} {p1 : Int32} {q : Int32} (h : f_X12_isOne p0 p1 = some q) : Ctr l G yX12_isOne Y_X12_isOne M [.int p0, .int p1] M (some (.int q)) := by
  refine Ctr.of (Y := Y_X12_isOne) (L := [some (.int p0), some (.int p1)]) (t := Option.bind (f_X12_isOne p0 p1) (fun q => some (M, some (.int q)))) (by decide) rfl rfl (nle rfl) (Lof_in 0 _ rfl) (fun X hG hl => ?_) (by rw [h]; rfl)
  subst hG
  subst hl
  unfold f_X12_isOne
  refine s_iload_n (pc := 0) 0 dX12_isOne_0 rfl rfl ?_
  refine s_iload_n (pc := 1) 1 dX12_isOne_1 rfl rfl ?_
  refine s_ishr (pc := 2) dX12_isOne_2 ?_
  refine s_iconst (pc := 3) 1 dX12_isOne_3 kc_1 ?_
  refine s_iand (pc := 4) dX12_isOne_4 ?_
  refine s_iconst (pc := 5) 1 dX12_isOne_5 kc_1 ?_
  refine s_icne (pc := 6) 13 dX12_isOne_6 rfl ?_ ?_
  · refine s_iconst (pc := 13) 0 dX12_isOne_13 kc_0 ?_
    exact s_zret rfl rfl dX12_isOne_14
  · refine s_iconst (pc := 9) 1 dX12_isOne_9 kc_1 ?_
    refine s_goto (pc := 10) 14 dX12_isOne_10 rfl ?_
    exact s_zret rfl rfl dX12_isOne_14
set_option maxRecDepth 100000 in
set_option maxHeartbeats 8000000 in
noncomputable def f_X12_isSmall (p0 : Int32) : Option Int32 :=
  if p0 < 97 then (some 0) else (if 122 < p0 then (some 0) else (some 1))
abbrev Y_X12_isSmall : Sta := (RX12, "isSmall", cX12_isSmall, 1, (some .boolean), 1)
set_option maxRecDepth 100000 in
set_option maxHeartbeats 8000000 in
theorem t_X12_isSmall {l : Launch} {G : Gh} {M : Mem} {p0 : Int32} {q : Int32} (h : f_X12_isSmall p0 = some q) : Ctr l G yX12_isSmall Y_X12_isSmall M [.int p0] M (some (.int q)) := by
  refine Ctr.of (Y := Y_X12_isSmall) (L := [some (.int p0)]) (t := Option.bind (f_X12_isSmall p0) (fun q => some (M, some (.int q)))) (by decide) rfl rfl (nle rfl) (Lof_in 0 _ rfl) (fun X hG hl => ?_) (by rw [h]; rfl)
  subst hG
  subst hl
  unfold f_X12_isSmall
  refine s_iload_n (pc := 0) 0 dX12_isSmall_0 rfl rfl ?_
  refine s_bipush (pc := 1) 97 dX12_isSmall_1 kb_97 ?_
  refine s_iclt (pc := 3) 16 dX12_isSmall_3 rfl ?_ ?_
  · refine s_iconst (pc := 16) 0 dX12_isSmall_16 kc_0 ?_
    exact s_zret rfl rfl dX12_isSmall_17
  · refine s_iload_n (pc := 6) 0 dX12_isSmall_6 rfl rfl ?_
    refine s_bipush (pc := 7) 122 dX12_isSmall_7 kb_122 ?_
    refine s_icgt (pc := 9) 16 dX12_isSmall_9 rfl ?_ ?_
    · refine s_iconst (pc := 16) 0 dX12_isSmall_16 kc_0 ?_
      exact s_zret rfl rfl dX12_isSmall_17
    · refine s_iconst (pc := 12) 1 dX12_isSmall_12 kc_1 ?_
      refine s_goto (pc := 13) 17 dX12_isSmall_13 rfl ?_
      exact s_zret rfl rfl dX12_isSmall_17
set_option maxRecDepth 100000 in
set_option maxHeartbeats 8000000 in
noncomputable def f_X12_isTree (M : Mem) (a0 : Nat) (p1 : Int32) : Option Int32 :=
  Option.bind (loopO (σ := Int32 × Int32) (ρ := Int32) (fun s1 => if p1 ≤ s1.2 then (some (.inr s1.1)) else (grd (okO M 12 a0) (Option.bind (mR M a0 42) (fun r10 => grd (okO M 14 r10) (grd (vp_in s1.2 (mL M r10)) (bv (fun (s14 : Int32) => bv (s1.1 + s14 : Int32) (fun x17 => bv (s1.2 + 1 : Int32) (fun x18 => some (.inl (x17, x18))))) (fun j13 => if (mI M r10 s1.2.toNatClampNeg) = (-1) then (j13 1) else (j13 0)))))))) (0, 0)) (fun (x7 : Int32) => if x7 = 1 then (Option.bind (loopO (σ := Int32) (ρ := Unit ⊕ Unit) (fun s19 => if p1 ≤ s19 then (some (.inr (.inl ()))) else (Option.bind (loopO (σ := Int32 × Int32) (ρ := Int32) (fun s31 => if p1 ≤ s31.2 then (some (.inr s31.1)) else (grd (okO M 12 a0) (Option.bind (mR M a0 42) (fun r40 => grd (okO M 14 r40) (grd (vp_in s31.1 (mL M r40)) (if (mI M r40 s31.1.toNatClampNeg) = (-1) then (some (.inr s31.1)) else (Option.bind (mR M a0 42) (fun r43 => grd (okO M 14 r43) (grd (vp_in s31.1 (mL M r43)) (bv (mI M r43 s31.1.toNatClampNeg : Int32) (fun x46 => bv (s31.2 + 1 : Int32) (fun x47 => some (.inl (x46, x47)))))))))))))) (s19, 0)) (fun (x37 : Int32) => grd (okO M 12 a0) (Option.bind (mR M a0 42) (fun r49 => grd (okO M 14 r49) (grd (vp_in x37 (mL M r49)) (if (mI M r49 x37.toNatClampNeg) = (-1) then (bv (s19 + 1 : Int32) (fun x52 => some (.inl x52))) else (some (.inr (.inr ())))))))))) 0) (Sum.elim (fun (x27 : Unit) => some 1) (fun (x29 : Unit) => some 0))) else (some 0))
abbrev Y_X12_isTree : Sta := (RX12, "isTree", cX12_isTree, 6, (some .boolean), 1)
set_option maxRecDepth 100000 in
set_option maxHeartbeats 8000000 in
theorem t_X12_isTree {l : Launch} {G : Gh} {M : Mem} {a0 : Nat} {p1 : Int32} {q : Int32} (h : f_X12_isTree M a0 p1 = some q) : Ctr l G yX12_isTree Y_X12_isTree M [.ref (gh G + a0), .int p1] M (some (.int q)) := by
  refine Ctr.of (Y := Y_X12_isTree) (L := [some (.ref (gh G + a0)), some (.int p1), none, none, none, none]) (t := Option.bind (f_X12_isTree M a0 p1) (fun q => some (M, some (.int q)))) (by decide) rfl rfl (nle rfl) (Lof_in 4 _ rfl) (fun X hG hl => ?_) (by rw [h]; rfl)
  subst hG
  subst hl
  unfold f_X12_isTree
  refine s_iconst (pc := 0) 0 dX12_isTree_0 kc_0 ?_
  refine s_istore_n (pc := 1) 2 dX12_isTree_1 rfl (nlt rfl) rfl (L' := [some (.ref (gh (xG X) + a0)), some (.int p1), some (.int 0), none, none, none]) rfl ?_
  refine s_iconst (pc := 2) 0 dX12_isTree_2 kc_0 ?_
  refine s_istore_n (pc := 3) 3 dX12_isTree_3 rfl (nlt rfl) rfl (L' := [some (.ref (gh (xG X) + a0)), some (.int p1), some (.int 0), some (.int 0), none, none]) rfl ?_
  refine s_drop (L' := [some (.ref (gh (xG X) + a0)), some (.int p1), some (.int 0), some (.int 0), none, none]) ?_ (And.intro rfl (And.intro rfl (And.intro rfl (And.intro rfl trivial))))
  refine s_loop1 M (fun s1 : Int32 × Int32 => M) (fun s1 : Int32 × Int32 => [some (.ref (gh (xG X) + a0)), some (.int p1), some (.int s1.1), some (.int s1.2), none, none]) (fun x7 : Int32 => M) 33 (fun x7 : Int32 => [some (.ref (gh (xG X) + a0)), some (.int p1), some (.int x7), none, none, none]) (fun x7 hx8 => ?_) (fun T3 R5 hT4 hR6 s1 hs2 => ?_) (0, 0) Le.rf
  · show S0 X _ M 33 [some (.ref (gh (xG X) + a0)), some (.int p1), some (.int x7), none, none, none] [] _
    refine s_iload_n (pc := 33) 2 dX12_isTree_33 rfl rfl ?_
    refine s_iconst (pc := 34) 1 dX12_isTree_34 kc_1 ?_
    refine s_iceq (pc := 35) 40 dX12_isTree_35 rfl ?_ ?_
    · refine s_iconst (pc := 40) 0 dX12_isTree_40 kc_0 ?_
      refine s_istore_n (pc := 41) 3 dX12_isTree_41 rfl (nlt rfl) rfl (L' := [some (.ref (gh (xG X) + a0)), some (.int p1), some (.int x7), some (.int 0), none, none]) rfl ?_
      refine s_drop (L' := [some (.ref (gh (xG X) + a0)), some (.int p1), none, some (.int 0), none, none]) ?_ (And.intro rfl (And.intro rfl (And.intro rfl trivial)))
      refine s_loop2 M (fun s19 : Int32 => M) (fun s19 : Int32 => [some (.ref (gh (xG X) + a0)), some (.int p1), none, some (.int s19), none, none]) (fun x27 : Unit => M) 104 (fun x27 : Unit => [none, none, none, none, none, none]) (fun x29 : Unit => M) 96 (fun x29 : Unit => [none, none, none, none, none, none]) (fun x27 hx28 => ?_) (fun x29 hx30 => ?_) (fun T21 R23 R25 hT22 hR24 hR26 s19 hs20 => ?_) 0 Le.rf
      · show S0 X _ M 104 [none, none, none, none, none, none] [] _
        refine s_iconst (pc := 104) 1 dX12_isTree_104 kc_1 ?_
        exact s_zret rfl rfl dX12_isTree_105
      · show S0 X _ M 96 [none, none, none, none, none, none] [] _
        refine s_iconst (pc := 96) 0 dX12_isTree_96 kc_0 ?_
        exact s_zret rfl rfl dX12_isTree_97
      · show S0 X _ M 42 [some (.ref (gh (xG X) + a0)), some (.int p1), none, some (.int s19), none, none] [] _
        refine s_iload_n (pc := 42) 3 dX12_isTree_42 rfl rfl ?_
        refine s_iload_n (pc := 43) 1 dX12_isTree_43 rfl rfl ?_
        refine s_icge (pc := 44) 104 dX12_isTree_44 rfl ?_ ?_
        · exact s_drop (hR24 () Le.rf) trivial
        · refine s_iload_n (pc := 47) 3 dX12_isTree_47 rfl rfl ?_
          refine s_istore (pc := 48) dX12_isTree_48 (nlt rfl) rfl (L' := [some (.ref (gh (xG X) + a0)), some (.int p1), none, some (.int s19), some (.int s19), none]) rfl ?_
          refine s_iconst (pc := 50) 0 dX12_isTree_50 kc_0 ?_
          refine s_istore (pc := 51) dX12_isTree_51 (nlt rfl) rfl (L' := [some (.ref (gh (xG X) + a0)), some (.int p1), none, some (.int s19), some (.int s19), some (.int 0)]) rfl ?_
          refine s_drop (L' := [some (.ref (gh (xG X) + a0)), some (.int p1), none, some (.int s19), some (.int s19), some (.int 0)]) ?_ (And.intro rfl (And.intro rfl (And.intro rfl (And.intro rfl (And.intro rfl trivial)))))
          refine s_loop1 M (fun s31 : Int32 × Int32 => M) (fun s31 : Int32 × Int32 => [some (.ref (gh (xG X) + a0)), some (.int p1), none, some (.int s19), some (.int s31.1), some (.int s31.2)]) (fun x37 : Int32 => M) 85 (fun x37 : Int32 => [some (.ref (gh (xG X) + a0)), some (.int p1), none, some (.int s19), some (.int x37), none]) (fun x37 hx38 => ?_) (fun T33 R35 hT34 hR36 s31 hs32 => ?_) (s19, 0) Le.rf
          · show S0 X _ M 85 [some (.ref (gh (xG X) + a0)), some (.int p1), none, some (.int s19), some (.int x37), none] [] _
            refine s_aload_n (pc := 85) 0 dX12_isTree_85 rfl rfl ?_
            refine s_grd (fun o48 => ?_)
            refine s_geto (pc := 86) F_12 42 rfl o48 dX12_isTree_86 kf_X12_98 ?_
            refine s_rvB (fun r49 => ?_)
            refine s_iload (pc := 89) dX12_isTree_89 rfl ?_
            refine s_grd (fun o50 => ?_)
            refine s_grd (fun i51 => ?_)
            refine s_iald (pc := 91) o50 i51 dX12_isTree_91 ?_
            refine s_iconst (pc := 92) (-1) dX12_isTree_92 kc_m1 ?_
            refine s_iceq (pc := 93) 98 dX12_isTree_93 rfl ?_ ?_
            · refine s_iinc (pc := 98) dX12_isTree_98 rfl (v := s19 + 1) (congrArg (fun z : Int32 => s19 + z) kc_1) (nlt rfl) rfl (L' := [some (.ref (gh (xG X) + a0)), some (.int p1), none, some (.int (s19 + 1)), some (.int x37), none]) rfl ?_
              refine s_bv (fun x52 : Int32 => [some (.ref (gh (xG X) + a0)), some (.int p1), none, some (.int x52), some (.int x37), none]) (fun x52 => ?_) rfl
              refine s_goto (pc := 101) 42 dX12_isTree_101 rfl ?_
              exact s_drop (hT22 x52 Le.rf) (And.intro rfl (And.intro rfl (And.intro rfl trivial)))
            · exact s_drop (hR26 () Le.rf) trivial
          · show S0 X _ M 53 [some (.ref (gh (xG X) + a0)), some (.int p1), none, some (.int s19), some (.int s31.1), some (.int s31.2)] [] _
            refine s_iload (pc := 53) dX12_isTree_53 rfl ?_
            refine s_iload_n (pc := 55) 1 dX12_isTree_55 rfl rfl ?_
            refine s_icge (pc := 56) 85 dX12_isTree_56 rfl ?_ ?_
            · exact s_drop (hR36 s31.1 Le.rf) (And.intro rfl (And.intro rfl (And.intro rfl (And.intro rfl trivial))))
            · refine s_aload_n (pc := 59) 0 dX12_isTree_59 rfl rfl ?_
              refine s_grd (fun o39 => ?_)
              refine s_geto (pc := 60) F_12 42 rfl o39 dX12_isTree_60 kf_X12_98 ?_
              refine s_rvB (fun r40 => ?_)
              refine s_iload (pc := 63) dX12_isTree_63 rfl ?_
              refine s_grd (fun o41 => ?_)
              refine s_grd (fun i42 => ?_)
              refine s_iald (pc := 65) o41 i42 dX12_isTree_65 ?_
              refine s_iconst (pc := 66) (-1) dX12_isTree_66 kc_m1 ?_
              refine s_iceq (pc := 67) 85 dX12_isTree_67 rfl ?_ ?_
              · exact s_drop (hR36 s31.1 Le.rf) (And.intro rfl (And.intro rfl (And.intro rfl (And.intro rfl trivial))))
              · refine s_aload_n (pc := 70) 0 dX12_isTree_70 rfl rfl ?_
                refine s_geto (pc := 71) F_12 42 rfl o39 dX12_isTree_71 kf_X12_98 ?_
                refine s_rvB (fun r43 => ?_)
                refine s_iload (pc := 74) dX12_isTree_74 rfl ?_
                refine s_grd (fun o44 => ?_)
                refine s_grd (fun i45 => ?_)
                refine s_iald (pc := 76) o44 i45 dX12_isTree_76 ?_
                refine s_istore (pc := 77) dX12_isTree_77 (nlt rfl) rfl (L' := [some (.ref (gh (xG X) + a0)), some (.int p1), none, some (.int s19), some (.int (mI M r43 s31.1.toNatClampNeg)), some (.int s31.2)]) rfl ?_
                refine s_bv (fun x46 : Int32 => [some (.ref (gh (xG X) + a0)), some (.int p1), none, some (.int s19), some (.int x46), some (.int s31.2)]) (fun x46 => ?_) rfl
                refine s_iinc (pc := 79) dX12_isTree_79 rfl (v := s31.2 + 1) (congrArg (fun z : Int32 => s31.2 + z) kc_1) (nlt rfl) rfl (L' := [some (.ref (gh (xG X) + a0)), some (.int p1), none, some (.int s19), some (.int x46), some (.int (s31.2 + 1))]) rfl ?_
                refine s_bv (fun x47 : Int32 => [some (.ref (gh (xG X) + a0)), some (.int p1), none, some (.int s19), some (.int x46), some (.int x47)]) (fun x47 => ?_) rfl
                refine s_goto (pc := 82) 53 dX12_isTree_82 rfl ?_
                exact s_drop (hT34 (x46, x47) Le.rf) (And.intro rfl (And.intro rfl (And.intro rfl (And.intro rfl (And.intro rfl trivial)))))
    · refine s_iconst (pc := 38) 0 dX12_isTree_38 kc_0 ?_
      exact s_zret rfl rfl dX12_isTree_39
  · show S0 X _ M 4 [some (.ref (gh (xG X) + a0)), some (.int p1), some (.int s1.1), some (.int s1.2), none, none] [] _
    refine s_iload_n (pc := 4) 3 dX12_isTree_4 rfl rfl ?_
    refine s_iload_n (pc := 5) 1 dX12_isTree_5 rfl rfl ?_
    refine s_icge (pc := 6) 33 dX12_isTree_6 rfl ?_ ?_
    · exact s_drop (hR6 s1.1 Le.rf) (And.intro rfl (And.intro rfl (And.intro rfl trivial)))
    · refine s_iload_n (pc := 9) 2 dX12_isTree_9 rfl rfl ?_
      refine s_aload_n (pc := 10) 0 dX12_isTree_10 rfl rfl ?_
      refine s_grd (fun o9 => ?_)
      refine s_geto (pc := 11) F_12 42 rfl o9 dX12_isTree_11 kf_X12_98 ?_
      refine s_rvB (fun r10 => ?_)
      refine s_iload_n (pc := 14) 3 dX12_isTree_14 rfl rfl ?_
      refine s_grd (fun o11 => ?_)
      refine s_grd (fun i12 => ?_)
      refine s_iald (pc := 15) o11 i12 dX12_isTree_15 ?_
      refine s_iconst (pc := 16) (-1) dX12_isTree_16 kc_m1 ?_
      refine s_join M (fun s14 : Int32 => M) 25 (fun s14 : Int32 => [some (.ref (gh (xG X) + a0)), some (.int p1), none, some (.int s1.2), none, none]) (fun s14 : Int32 => [.int s14, .int s1.1]) (fun s14 hs15 => ?_) (fun j13 hj16 => ?_)
      · show S0 X _ M 25 [some (.ref (gh (xG X) + a0)), some (.int p1), none, some (.int s1.2), none, none] [.int s14, .int s1.1] _
        refine s_iadd (pc := 25) dX12_isTree_25 ?_
        refine s_istore_n (pc := 26) 2 dX12_isTree_26 rfl (nlt rfl) rfl (L' := [some (.ref (gh (xG X) + a0)), some (.int p1), some (.int (s1.1 + s14)), some (.int s1.2), none, none]) rfl ?_
        refine s_bv (fun x17 : Int32 => [some (.ref (gh (xG X) + a0)), some (.int p1), some (.int x17), some (.int s1.2), none, none]) (fun x17 => ?_) rfl
        refine s_iinc (pc := 27) dX12_isTree_27 rfl (v := s1.2 + 1) (congrArg (fun z : Int32 => s1.2 + z) kc_1) (nlt rfl) rfl (L' := [some (.ref (gh (xG X) + a0)), some (.int p1), some (.int x17), some (.int (s1.2 + 1)), none, none]) rfl ?_
        refine s_bv (fun x18 : Int32 => [some (.ref (gh (xG X) + a0)), some (.int p1), some (.int x17), some (.int x18), none, none]) (fun x18 => ?_) rfl
        refine s_goto (pc := 30) 4 dX12_isTree_30 rfl ?_
        exact s_drop (hT4 (x17, x18) Le.rf) (And.intro rfl (And.intro rfl (And.intro rfl (And.intro rfl trivial))))
      · refine s_icne (pc := 17) 24 dX12_isTree_17 rfl ?_ ?_
        · refine s_iconst (pc := 24) 0 dX12_isTree_24 kc_0 ?_
          exact s_drop (hj16 0 Le.rf) (And.intro rfl (And.intro rfl (And.intro rfl trivial)))
        · refine s_iconst (pc := 20) 1 dX12_isTree_20 kc_1 ?_
          refine s_goto (pc := 21) 25 dX12_isTree_21 rfl ?_
          exact s_drop (hj16 1 Le.rf) (And.intro rfl (And.intro rfl (And.intro rfl trivial)))
set_option maxRecDepth 100000 in
set_option maxHeartbeats 8000000 in
noncomputable def f_X12_lays (M : Mem) (a0 : Nat) (p1 : Int32) : Option Mem :=
  grd (okO M 12 a0) (Option.bind (mR M a0 3) (fun r2 => grd (okO M 14 r2) (grd (vp_in (59 + p1) (mL M r2)) (bv (wI M r2 (59 + p1).toNatClampNeg (mI M a0 22)) (fun M5 => Option.bind (loopO (σ := Mem × Int32) (ρ := Mem) (fun s9 => if (mI s9.1 a0 22) ≤ s9.2 then (some (.inr s9.1)) else (Option.bind (mR s9.1 a0 3) (fun r18 => Option.bind (mR s9.1 a0 19) (fun r19 => grd (okO s9.1 14 r19) (grd (vp_in s9.2 (mL s9.1 r19)) (grd (okO s9.1 14 r18) (grd (vp_in ((66 + (400 * p1)) + s9.2) (mL s9.1 r18)) (bv (wI s9.1 r18 ((66 + (400 * p1)) + s9.2).toNatClampNeg (mI s9.1 r19 s9.2.toNatClampNeg)) (fun M24 => Option.bind (mR M24 a0 3) (fun r28 => Option.bind (mR M24 a0 20) (fun r29 => grd (okO M24 14 r29) (grd (vp_in s9.2 (mL M24 r29)) (grd (okO M24 14 r28) (grd (vp_in ((2866 + (400 * p1)) + s9.2) (mL M24 r28)) (bv (wI M24 r28 ((2866 + (400 * p1)) + s9.2).toNatClampNeg (mI M24 r29 s9.2.toNatClampNeg)) (fun M34 => bv (s9.2 + 1 : Int32) (fun x38 => some (.inl (M34, x38))))))))))))))))))) (M5, 0)) (fun (x16 : Mem) => some x16))))))
abbrev Y_X12_lays : Sta := (RX12, "lays", cX12_lays, 3, none, 1)
set_option maxRecDepth 100000 in
set_option maxHeartbeats 8000000 in
theorem t_X12_lays {l : Launch} {G : Gh} {M : Mem} {a0 : Nat} {p1 : Int32} {q : Mem} (h : f_X12_lays M a0 p1 = some q) : Ctr l G yX12_lays Y_X12_lays M [.ref (gh G + a0), .int p1] q (none) := by
  refine Ctr.of (Y := Y_X12_lays) (L := [some (.ref (gh G + a0)), some (.int p1), none]) (t := Option.bind (f_X12_lays M a0 p1) (fun q => some (q, (none : Option Value)))) (by decide) rfl rfl (nle rfl) (Lof_in 1 _ rfl) (fun X hG hl => ?_) (by rw [h]; rfl)
  subst hG
  subst hl
  unfold f_X12_lays
  refine s_aload_n (pc := 0) 0 dX12_lays_0 rfl rfl ?_
  refine s_grd (fun o1 => ?_)
  refine s_geto (pc := 1) F_12 3 rfl o1 dX12_lays_1 kf_X12_20 ?_
  refine s_rvB (fun r2 => ?_)
  refine s_bipush (pc := 4) 59 dX12_lays_4 kb_59 ?_
  refine s_iload_n (pc := 6) 1 dX12_lays_6 rfl rfl ?_
  refine s_iadd (pc := 7) dX12_lays_7 ?_
  refine s_aload_n (pc := 8) 0 dX12_lays_8 rfl rfl ?_
  refine s_geti (pc := 9) F_12 22 rfl o1 dX12_lays_9 kf_X12_217 ?_
  refine s_grd (fun o3 => ?_)
  refine s_grd (fun i4 => ?_)
  refine s_iast (pc := 12) o3 i4 dX12_lays_12 (fun M5 hM6 => ?_)
  have h7 := le_wI hM6
  have o8 := h7.ok o1
  refine s_iconst (pc := 13) 0 dX12_lays_13 kc_0 ?_
  refine s_istore_n (pc := 14) 2 dX12_lays_14 rfl (nlt rfl) rfl (L' := [some (.ref (gh (xG X) + a0)), some (.int p1), some (.int 0)]) rfl ?_
  refine s_drop (L' := [some (.ref (gh (xG X) + a0)), some (.int p1), some (.int 0)]) ?_ (And.intro rfl (And.intro rfl (And.intro rfl trivial)))
  refine s_loop1 M5 (fun s9 : Mem × Int32 => s9.1) (fun s9 : Mem × Int32 => [some (.ref (gh (xG X) + a0)), some (.int p1), some (.int s9.2)]) (fun x16 : Mem => x16) 72 (fun x16 : Mem => [none, none, none]) (fun x16 hx17 => ?_) (fun T11 R13 hT12 hR14 s9 hs10 => ?_) (M5, 0) Le.rf
  · show S0 X _ x16 72 [none, none, none] [] _
    exact s_vret rfl dX12_lays_72
  · show S0 X _ s9.1 15 [some (.ref (gh (xG X) + a0)), some (.int p1), some (.int s9.2)] [] _
    have o15 := hs10.ok o8
    refine s_iload_n (pc := 15) 2 dX12_lays_15 rfl rfl ?_
    refine s_aload_n (pc := 16) 0 dX12_lays_16 rfl rfl ?_
    refine s_geti (pc := 17) F_12 22 rfl o15 dX12_lays_17 kf_X12_217 ?_
    refine s_icge (pc := 20) 72 dX12_lays_20 rfl ?_ ?_
    · exact s_drop (hR14 s9.1 hs10) trivial
    · refine s_aload_n (pc := 23) 0 dX12_lays_23 rfl rfl ?_
      refine s_geto (pc := 24) F_12 3 rfl o15 dX12_lays_24 kf_X12_20 ?_
      refine s_rvB (fun r18 => ?_)
      refine s_bipush (pc := 27) 66 dX12_lays_27 kb_66 ?_
      refine s_sipush (pc := 29) 400 dX12_lays_29 ks_400 ?_
      refine s_iload_n (pc := 32) 1 dX12_lays_32 rfl rfl ?_
      refine s_imul (pc := 33) dX12_lays_33 ?_
      refine s_iadd (pc := 34) dX12_lays_34 ?_
      refine s_iload_n (pc := 35) 2 dX12_lays_35 rfl rfl ?_
      refine s_iadd (pc := 36) dX12_lays_36 ?_
      refine s_aload_n (pc := 37) 0 dX12_lays_37 rfl rfl ?_
      refine s_geto (pc := 38) F_12 19 rfl o15 dX12_lays_38 kf_X12_52 ?_
      refine s_rvB (fun r19 => ?_)
      refine s_iload_n (pc := 41) 2 dX12_lays_41 rfl rfl ?_
      refine s_grd (fun o20 => ?_)
      refine s_grd (fun i21 => ?_)
      refine s_iald (pc := 42) o20 i21 dX12_lays_42 ?_
      refine s_grd (fun o22 => ?_)
      refine s_grd (fun i23 => ?_)
      refine s_iast (pc := 43) o22 i23 dX12_lays_43 (fun M24 hM25 => ?_)
      have h26 := le_wI hM25
      have o27 := h26.ok o15
      refine s_aload_n (pc := 44) 0 dX12_lays_44 rfl rfl ?_
      refine s_geto (pc := 45) F_12 3 rfl o27 dX12_lays_45 kf_X12_20 ?_
      refine s_rvB (fun r28 => ?_)
      refine s_sipush (pc := 48) 2866 dX12_lays_48 ks_2866 ?_
      refine s_sipush (pc := 51) 400 dX12_lays_51 ks_400 ?_
      refine s_iload_n (pc := 54) 1 dX12_lays_54 rfl rfl ?_
      refine s_imul (pc := 55) dX12_lays_55 ?_
      refine s_iadd (pc := 56) dX12_lays_56 ?_
      refine s_iload_n (pc := 57) 2 dX12_lays_57 rfl rfl ?_
      refine s_iadd (pc := 58) dX12_lays_58 ?_
      refine s_aload_n (pc := 59) 0 dX12_lays_59 rfl rfl ?_
      refine s_geto (pc := 60) F_12 20 rfl o27 dX12_lays_60 kf_X12_55 ?_
      refine s_rvB (fun r29 => ?_)
      refine s_iload_n (pc := 63) 2 dX12_lays_63 rfl rfl ?_
      refine s_grd (fun o30 => ?_)
      refine s_grd (fun i31 => ?_)
      refine s_iald (pc := 64) o30 i31 dX12_lays_64 ?_
      refine s_grd (fun o32 => ?_)
      refine s_grd (fun i33 => ?_)
      refine s_iast (pc := 65) o32 i33 dX12_lays_65 (fun M34 hM35 => ?_)
      have h36 := le_wI hM35
      have o37 := h36.ok o27
      refine s_iinc (pc := 66) dX12_lays_66 rfl (v := s9.2 + 1) (congrArg (fun z : Int32 => s9.2 + z) kc_1) (nlt rfl) rfl (L' := [some (.ref (gh (xG X) + a0)), some (.int p1), some (.int (s9.2 + 1))]) rfl ?_
      refine s_bv (fun x38 : Int32 => [some (.ref (gh (xG X) + a0)), some (.int p1), some (.int x38)]) (fun x38 => ?_) rfl
      refine s_goto (pc := 69) 15 dX12_lays_69 rfl ?_
      exact s_drop (hT12 (M34, x38) (hs10.tr (h26.tr h36))) (And.intro rfl (And.intro rfl (And.intro rfl trivial)))
set_option maxRecDepth 100000 in
set_option maxHeartbeats 8000000 in
noncomputable def f_X12_lies (p0 : Int32) (p1 : Int32) (p2 : Int32) : Option Int32 :=
  if p0 < p1 then (some 0) else (if p2 < p0 then (some 0) else (some 1))
abbrev Y_X12_lies : Sta := (RX12, "lies", cX12_lies, 3, (some .boolean), 1)
set_option maxRecDepth 100000 in
set_option maxHeartbeats 8000000 in
theorem t_X12_lies {l : Launch} {G : Gh} {M : Mem} {p0 : Int32} {p1 : Int32} {p2 : Int32} {q : Int32} (h : f_X12_lies p0 p1 p2 = some q) : Ctr l G yX12_lies Y_X12_lies M [.int p0, .int p1, .int p2] M (some (.int q)) := by
  refine Ctr.of (Y := Y_X12_lies) (L := [some (.int p0), some (.int p1), some (.int p2)]) (t := Option.bind (f_X12_lies p0 p1 p2) (fun q => some (M, some (.int q)))) (by decide) rfl rfl (nle rfl) (Lof_in 0 _ rfl) (fun X hG hl => ?_) (by rw [h]; rfl)
  subst hG
  subst hl
  unfold f_X12_lies
  refine s_iload_n (pc := 0) 0 dX12_lies_0 rfl rfl ?_
  refine s_iload_n (pc := 1) 1 dX12_lies_1 rfl rfl ?_
  refine s_iclt (pc := 2) 14 dX12_lies_2 rfl ?_ ?_
  · refine s_iconst (pc := 14) 0 dX12_lies_14 kc_0 ?_
    exact s_zret rfl rfl dX12_lies_15
  · refine s_iload_n (pc := 5) 0 dX12_lies_5 rfl rfl ?_
    refine s_iload_n (pc := 6) 2 dX12_lies_6 rfl rfl ?_
    refine s_icgt (pc := 7) 14 dX12_lies_7 rfl ?_ ?_
    · refine s_iconst (pc := 14) 0 dX12_lies_14 kc_0 ?_
      exact s_zret rfl rfl dX12_lies_15
    · refine s_iconst (pc := 10) 1 dX12_lies_10 kc_1 ?_
      refine s_goto (pc := 11) 15 dX12_lies_11 rfl ?_
      exact s_zret rfl rfl dX12_lies_15
set_option maxRecDepth 100000 in
set_option maxHeartbeats 8000000 in
noncomputable def f_X12_longOf (p0 : Int32) : Option Int32 :=
  Option.bind (loopO (σ := Int32 × Int32) (ρ := Int32) (fun s1 => if s1.2 ≤ 0 then (some (.inr s1.1)) else (bv (s1.1 + 1 : Int32) (fun x9 => bv (s1.2 / 10 : Int32) (fun x10 => some (.inl (x9, x10)))))) (0, p0)) (fun (x7 : Int32) => some x7)
abbrev Y_X12_longOf : Sta := (RX12, "longOf", cX12_longOf, 3, (some .int), 1)
set_option maxRecDepth 100000 in
set_option maxHeartbeats 8000000 in
theorem t_X12_longOf {l : Launch} {G : Gh} {M : Mem} {p0 : Int32} {q : Int32} (h : f_X12_longOf p0 = some q) : Ctr l G yX12_longOf Y_X12_longOf M [.int p0] M (some (.int q)) := by
  refine Ctr.of (Y := Y_X12_longOf) (L := [some (.int p0), none, none]) (t := Option.bind (f_X12_longOf p0) (fun q => some (M, some (.int q)))) (by decide) rfl rfl (nle rfl) (Lof_in 2 _ rfl) (fun X hG hl => ?_) (by rw [h]; rfl)
  subst hG
  subst hl
  unfold f_X12_longOf
  refine s_iconst (pc := 0) 0 dX12_longOf_0 kc_0 ?_
  refine s_istore_n (pc := 1) 1 dX12_longOf_1 rfl (nlt rfl) rfl (L' := [some (.int p0), some (.int 0), none]) rfl ?_
  refine s_iload_n (pc := 2) 0 dX12_longOf_2 rfl rfl ?_
  refine s_istore_n (pc := 3) 2 dX12_longOf_3 rfl (nlt rfl) rfl (L' := [some (.int p0), some (.int 0), some (.int p0)]) rfl ?_
  refine s_drop (L' := [none, some (.int 0), some (.int p0)]) ?_ (And.intro rfl (And.intro rfl trivial))
  refine s_loop1 M (fun s1 : Int32 × Int32 => M) (fun s1 : Int32 × Int32 => [none, some (.int s1.1), some (.int s1.2)]) (fun x7 : Int32 => M) 19 (fun x7 : Int32 => [none, some (.int x7), none]) (fun x7 hx8 => ?_) (fun T3 R5 hT4 hR6 s1 hs2 => ?_) (0, p0) Le.rf
  · show S0 X _ M 19 [none, some (.int x7), none] [] _
    refine s_iload_n (pc := 19) 1 dX12_longOf_19 rfl rfl ?_
    exact s_iret rfl dX12_longOf_20
  · show S0 X _ M 4 [none, some (.int s1.1), some (.int s1.2)] [] _
    refine s_iload_n (pc := 4) 2 dX12_longOf_4 rfl rfl ?_
    refine s_ifle (pc := 5) 19 dX12_longOf_5 rfl ?_ ?_
    · exact s_drop (hR6 s1.1 Le.rf) (And.intro rfl trivial)
    · refine s_iinc (pc := 8) dX12_longOf_8 rfl (v := s1.1 + 1) (congrArg (fun z : Int32 => s1.1 + z) kc_1) (nlt rfl) rfl (L' := [none, some (.int (s1.1 + 1)), some (.int s1.2)]) rfl ?_
      refine s_bv (fun x9 : Int32 => [none, some (.int x9), some (.int s1.2)]) (fun x9 => ?_) rfl
      refine s_iload_n (pc := 11) 2 dX12_longOf_11 rfl rfl ?_
      refine s_bipush (pc := 12) 10 dX12_longOf_12 kb_10 ?_
      refine s_idiv (pc := 14) dX12_longOf_14 (by decide) ?_
      refine s_istore_n (pc := 15) 2 dX12_longOf_15 rfl (nlt rfl) rfl (L' := [none, some (.int x9), some (.int (s1.2 / 10))]) rfl ?_
      refine s_bv (fun x10 : Int32 => [none, some (.int x9), some (.int x10)]) (fun x10 => ?_) rfl
      refine s_goto (pc := 16) 4 dX12_longOf_16 rfl ?_
      exact s_drop (hT4 (x9, x10) Le.rf) (And.intro rfl (And.intro rfl trivial))
set_option maxRecDepth 100000 in
set_option maxHeartbeats 8000000 in
noncomputable def f_X12_measuresTo (M : Mem) (a0 : Nat) (p1 : Int32) : Option Mem :=
  Option.bind (loopO (σ := Mem × Int32) (ρ := Mem) (fun s1 => if 9331 ≤ s1.2 then (some (.inr s1.1)) else (grd (okO s1.1 12 a0) (Option.bind (mR s1.1 a0 35) (fun r10 => bv (fun (s12 : Int32) => grd (okO s1.1 14 r10) (grd (vp_in s1.2 (mL s1.1 r10)) (bv (wI s1.1 r10 s1.2.toNatClampNeg s12) (fun M17 => bv (s1.2 + 1 : Int32) (fun x21 => some (.inl (M17, x21))))))) (fun j11 => if s1.2 = p1 then (j11 0) else (j11 1000000)))))) (M, 0)) (fun (x7 : Mem) => Option.bind (loopO (σ := Mem × Int32 × Int32) (ρ := Mem) (fun s22 => if s22.2.1 = 0 then (some (.inr s22.1)) else (Option.bind (loopO (σ := Mem × Int32 × Int32) (ρ := Mem × Int32) (fun s30 => if 9331 ≤ s30.2.2 then (some (.inr (s30.1, s30.2.1))) else (grd (okO s30.1 12 a0) (Option.bind (mR s30.1 a0 35) (fun r39 => grd (okO s30.1 14 r39) (grd (vp_in s30.2.2 (mL s30.1 r39)) (bv (fun (s43 : Mem × Int32) => bv (s30.2.2 + 1 : Int32) (fun x47 => some (.inl (s43.1, s43.2, x47)))) (fun j42 => if 1000000 ≤ (mI s30.1 r39 s30.2.2.toNatClampNeg) then (Option.bind (loopO (σ := Int32 × Int32) (ρ := Int32) (fun s48 => Option.bind (mR s30.1 a0 33) (fun r56 => grd (okO s30.1 14 r56) (grd (vp_in s30.2.2 (mL s30.1 r56)) (if (mI s30.1 r56 s30.2.2.toNatClampNeg) ≤ s48.2 then (some (.inr s48.1)) else (if s48.1 = 0 then (Option.bind (mR s30.1 a0 35) (fun r59 => Option.bind (mR s30.1 a0 32) (fun r60 => grd (okO s30.1 14 r60) (grd (vp_in ((46 * s30.2.2) + s48.2) (mL s30.1 r60)) (grd (okO s30.1 14 r59) (grd (vp_in (mI s30.1 r60 ((46 * s30.2.2) + s48.2).toNatClampNeg) (mL s30.1 r59)) (bv (fun (s66 : Int32) => bv (s48.2 + 1 : Int32) (fun x69 => some (.inl (s66, x69)))) (fun j65 => if (mI s30.1 r59 (mI s30.1 r60 ((46 * s30.2.2) + s48.2).toNatClampNeg).toNatClampNeg) = s22.2.2 then (j65 1) else (j65 0))))))))) else (some (.inr s48.1))))))) (0, 0)) (fun (x54 : Int32) => if x54 = 0 then (j42 (s30.1, s30.2.1)) else (Option.bind (mR s30.1 a0 35) (fun r70 => grd (okO s30.1 14 r70) (grd (vp_in s30.2.2 (mL s30.1 r70)) (bv (wI s30.1 r70 s30.2.2.toNatClampNeg (s22.2.2 + 1)) (fun M73 => j42 (M73, 1)))))))) else (j42 (s30.1, s30.2.1))))))))) (s22.1, 0, 0)) (fun (x36 : Mem × Int32) => bv (s22.2.2 + 1 : Int32) (fun x77 => some (.inl (x36.1, x36.2, x77)))))) (x7, 1, 0)) (fun (x28 : Mem) => some x28))
abbrev Y_X12_measuresTo : Sta := (RX12, "measuresTo", cX12_measuresTo, 7, none, 1)
set_option maxRecDepth 100000 in
set_option maxHeartbeats 8000000 in
theorem t_X12_measuresTo {l : Launch} {G : Gh} {M : Mem} {a0 : Nat} {p1 : Int32} {q : Mem} (h : f_X12_measuresTo M a0 p1 = some q) : Ctr l G yX12_measuresTo Y_X12_measuresTo M [.ref (gh G + a0), .int p1] q (none) := by
  refine Ctr.of (Y := Y_X12_measuresTo) (L := [some (.ref (gh G + a0)), some (.int p1), none, none, none, none, none]) (t := Option.bind (f_X12_measuresTo M a0 p1) (fun q => some (q, (none : Option Value)))) (by decide) rfl rfl (nle rfl) (Lof_in 5 _ rfl) (fun X hG hl => ?_) (by rw [h]; rfl)
  subst hG
  subst hl
  unfold f_X12_measuresTo
  refine s_iconst (pc := 0) 0 dX12_measuresTo_0 kc_0 ?_
  refine s_istore_n (pc := 1) 2 dX12_measuresTo_1 rfl (nlt rfl) rfl (L' := [some (.ref (gh (xG X) + a0)), some (.int p1), some (.int 0), none, none, none, none]) rfl ?_
  refine s_drop (L' := [some (.ref (gh (xG X) + a0)), some (.int p1), some (.int 0), none, none, none, none]) ?_ (And.intro rfl (And.intro rfl (And.intro rfl trivial)))
  refine s_loop1 M (fun s1 : Mem × Int32 => s1.1) (fun s1 : Mem × Int32 => [some (.ref (gh (xG X) + a0)), some (.int p1), some (.int s1.2), none, none, none, none]) (fun x7 : Mem => x7) 32 (fun x7 : Mem => [some (.ref (gh (xG X) + a0)), none, none, none, none, none, none]) (fun x7 hx8 => ?_) (fun T3 R5 hT4 hR6 s1 hs2 => ?_) (M, 0) Le.rf
  · show S0 X _ x7 32 [some (.ref (gh (xG X) + a0)), none, none, none, none, none, none] [] _
    refine s_iconst (pc := 32) 1 dX12_measuresTo_32 kc_1 ?_
    refine s_istore_n (pc := 33) 2 dX12_measuresTo_33 rfl (nlt rfl) rfl (L' := [some (.ref (gh (xG X) + a0)), none, some (.int 1), none, none, none, none]) rfl ?_
    refine s_iconst (pc := 34) 0 dX12_measuresTo_34 kc_0 ?_
    refine s_istore_n (pc := 35) 3 dX12_measuresTo_35 rfl (nlt rfl) rfl (L' := [some (.ref (gh (xG X) + a0)), none, some (.int 1), some (.int 0), none, none, none]) rfl ?_
    refine s_drop (L' := [some (.ref (gh (xG X) + a0)), none, some (.int 1), some (.int 0), none, none, none]) ?_ (And.intro rfl (And.intro rfl (And.intro rfl trivial)))
    refine s_loop1 x7 (fun s22 : Mem × Int32 × Int32 => s22.1) (fun s22 : Mem × Int32 × Int32 => [some (.ref (gh (xG X) + a0)), none, some (.int s22.2.1), some (.int s22.2.2), none, none, none]) (fun x28 : Mem => x28) 158 (fun x28 : Mem => [none, none, none, none, none, none, none]) (fun x28 hx29 => ?_) (fun T24 R26 hT25 hR27 s22 hs23 => ?_) (x7, 1, 0) Le.rf
    · show S0 X _ x28 158 [none, none, none, none, none, none, none] [] _
      exact s_vret rfl dX12_measuresTo_158
    · show S0 X _ s22.1 36 [some (.ref (gh (xG X) + a0)), none, some (.int s22.2.1), some (.int s22.2.2), none, none, none] [] _
      refine s_iload_n (pc := 36) 2 dX12_measuresTo_36 rfl rfl ?_
      refine s_ifeq (pc := 37) 158 dX12_measuresTo_37 rfl ?_ ?_
      · exact s_drop (hR27 s22.1 hs23) trivial
      · refine s_iconst (pc := 40) 0 dX12_measuresTo_40 kc_0 ?_
        refine s_istore_n (pc := 41) 2 dX12_measuresTo_41 rfl (nlt rfl) rfl (L' := [some (.ref (gh (xG X) + a0)), none, some (.int 0), some (.int s22.2.2), none, none, none]) rfl ?_
        refine s_iconst (pc := 42) 0 dX12_measuresTo_42 kc_0 ?_
        refine s_istore (pc := 43) dX12_measuresTo_43 (nlt rfl) rfl (L' := [some (.ref (gh (xG X) + a0)), none, some (.int 0), some (.int s22.2.2), some (.int 0), none, none]) rfl ?_
        refine s_drop (L' := [some (.ref (gh (xG X) + a0)), none, some (.int 0), some (.int s22.2.2), some (.int 0), none, none]) ?_ (And.intro rfl (And.intro rfl (And.intro rfl (And.intro rfl trivial))))
        refine s_loop1 s22.1 (fun s30 : Mem × Int32 × Int32 => s30.1) (fun s30 : Mem × Int32 × Int32 => [some (.ref (gh (xG X) + a0)), none, some (.int s30.2.1), some (.int s22.2.2), some (.int s30.2.2), none, none]) (fun x36 : Mem × Int32 => x36.1) 152 (fun x36 : Mem × Int32 => [some (.ref (gh (xG X) + a0)), none, some (.int x36.2), some (.int s22.2.2), none, none, none]) (fun x36 hx37 => ?_) (fun T32 R34 hT33 hR35 s30 hs31 => ?_) (s22.1, 0, 0) Le.rf
        · show S0 X _ x36.1 152 [some (.ref (gh (xG X) + a0)), none, some (.int x36.2), some (.int s22.2.2), none, none, none] [] _
          refine s_iinc (pc := 152) dX12_measuresTo_152 rfl (v := s22.2.2 + 1) (congrArg (fun z : Int32 => s22.2.2 + z) kc_1) (nlt rfl) rfl (L' := [some (.ref (gh (xG X) + a0)), none, some (.int x36.2), some (.int (s22.2.2 + 1)), none, none, none]) rfl ?_
          refine s_bv (fun x77 : Int32 => [some (.ref (gh (xG X) + a0)), none, some (.int x36.2), some (.int x77), none, none, none]) (fun x77 => ?_) rfl
          refine s_goto (pc := 155) 36 dX12_measuresTo_155 rfl ?_
          exact s_drop (hT25 (x36.1, x36.2, x77) (hs23.tr hx37)) (And.intro rfl (And.intro rfl (And.intro rfl trivial)))
        · show S0 X _ s30.1 45 [some (.ref (gh (xG X) + a0)), none, some (.int s30.2.1), some (.int s22.2.2), some (.int s30.2.2), none, none] [] _
          refine s_iload (pc := 45) dX12_measuresTo_45 rfl ?_
          refine s_sipush (pc := 47) 9331 dX12_measuresTo_47 ks_9331 ?_
          refine s_icge (pc := 50) 152 dX12_measuresTo_50 rfl ?_ ?_
          · exact s_drop (hR35 (s30.1, s30.2.1) hs31) (And.intro rfl (And.intro rfl (And.intro rfl trivial)))
          · refine s_aload_n (pc := 53) 0 dX12_measuresTo_53 rfl rfl ?_
            refine s_grd (fun o38 => ?_)
            refine s_geto (pc := 54) F_12 35 rfl o38 dX12_measuresTo_54 kf_X12_77 ?_
            refine s_rvB (fun r39 => ?_)
            refine s_iload (pc := 57) dX12_measuresTo_57 rfl ?_
            refine s_grd (fun o40 => ?_)
            refine s_grd (fun i41 => ?_)
            refine s_iald (pc := 59) o40 i41 dX12_measuresTo_59 ?_
            refine s_ldc (pc := 60) dX12_measuresTo_60 ki_X12_229 ?_
            refine s_join s30.1 (fun s43 : Mem × Int32 => s43.1) 146 (fun s43 : Mem × Int32 => [some (.ref (gh (xG X) + a0)), none, some (.int s43.2), some (.int s22.2.2), some (.int s30.2.2), none, none]) (fun s43 : Mem × Int32 => []) (fun s43 hs44 => ?_) (fun j42 hj45 => ?_)
            · show S0 X _ s43.1 146 [some (.ref (gh (xG X) + a0)), none, some (.int s43.2), some (.int s22.2.2), some (.int s30.2.2), none, none] [] _
              have o46 := hs44.ok o38
              refine s_iinc (pc := 146) dX12_measuresTo_146 rfl (v := s30.2.2 + 1) (congrArg (fun z : Int32 => s30.2.2 + z) kc_1) (nlt rfl) rfl (L' := [some (.ref (gh (xG X) + a0)), none, some (.int s43.2), some (.int s22.2.2), some (.int (s30.2.2 + 1)), none, none]) rfl ?_
              refine s_bv (fun x47 : Int32 => [some (.ref (gh (xG X) + a0)), none, some (.int s43.2), some (.int s22.2.2), some (.int x47), none, none]) (fun x47 => ?_) rfl
              refine s_goto (pc := 149) 45 dX12_measuresTo_149 rfl ?_
              exact s_drop (hT33 (s43.1, s43.2, x47) (hs31.tr hs44)) (And.intro rfl (And.intro rfl (And.intro rfl (And.intro rfl trivial))))
            · refine s_icge (pc := 62) 68 dX12_measuresTo_62 rfl ?_ ?_
              · refine s_iconst (pc := 68) 0 dX12_measuresTo_68 kc_0 ?_
                refine s_istore (pc := 69) dX12_measuresTo_69 (nlt rfl) rfl (L' := [some (.ref (gh (xG X) + a0)), none, some (.int s30.2.1), some (.int s22.2.2), some (.int s30.2.2), some (.int 0), none]) rfl ?_
                refine s_iconst (pc := 71) 0 dX12_measuresTo_71 kc_0 ?_
                refine s_istore (pc := 72) dX12_measuresTo_72 (nlt rfl) rfl (L' := [some (.ref (gh (xG X) + a0)), none, some (.int s30.2.1), some (.int s22.2.2), some (.int s30.2.2), some (.int 0), some (.int 0)]) rfl ?_
                refine s_drop (L' := [some (.ref (gh (xG X) + a0)), none, some (.int s30.2.1), some (.int s22.2.2), some (.int s30.2.2), some (.int 0), some (.int 0)]) ?_ (And.intro rfl (And.intro rfl (And.intro rfl (And.intro rfl (And.intro rfl (And.intro rfl trivial))))))
                refine s_loop1 s30.1 (fun s48 : Int32 × Int32 => s30.1) (fun s48 : Int32 × Int32 => [some (.ref (gh (xG X) + a0)), none, some (.int s30.2.1), some (.int s22.2.2), some (.int s30.2.2), some (.int s48.1), some (.int s48.2)]) (fun x54 : Int32 => s30.1) 126 (fun x54 : Int32 => [some (.ref (gh (xG X) + a0)), none, some (.int s30.2.1), some (.int s22.2.2), some (.int s30.2.2), some (.int x54), none]) (fun x54 hx55 => ?_) (fun T50 R52 hT51 hR53 s48 hs49 => ?_) (0, 0) Le.rf
                · show S0 X _ s30.1 126 [some (.ref (gh (xG X) + a0)), none, some (.int s30.2.1), some (.int s22.2.2), some (.int s30.2.2), some (.int x54), none] [] _
                  refine s_iload (pc := 126) dX12_measuresTo_126 rfl ?_
                  refine s_ifne (pc := 128) 134 dX12_measuresTo_128 rfl ?_ ?_
                  · refine s_aload_n (pc := 134) 0 dX12_measuresTo_134 rfl rfl ?_
                    refine s_geto (pc := 135) F_12 35 rfl o38 dX12_measuresTo_135 kf_X12_77 ?_
                    refine s_rvB (fun r70 => ?_)
                    refine s_iload (pc := 138) dX12_measuresTo_138 rfl ?_
                    refine s_iload_n (pc := 140) 3 dX12_measuresTo_140 rfl rfl ?_
                    refine s_iconst (pc := 141) 1 dX12_measuresTo_141 kc_1 ?_
                    refine s_iadd (pc := 142) dX12_measuresTo_142 ?_
                    refine s_grd (fun o71 => ?_)
                    refine s_grd (fun i72 => ?_)
                    refine s_iast (pc := 143) o71 i72 dX12_measuresTo_143 (fun M73 hM74 => ?_)
                    have h75 := le_wI hM74
                    have o76 := h75.ok o38
                    refine s_iconst (pc := 144) 1 dX12_measuresTo_144 kc_1 ?_
                    refine s_istore_n (pc := 145) 2 dX12_measuresTo_145 rfl (nlt rfl) rfl (L' := [some (.ref (gh (xG X) + a0)), none, some (.int 1), some (.int s22.2.2), some (.int s30.2.2), some (.int x54), none]) rfl ?_
                    exact s_drop (hj45 (M73, 1) h75) (And.intro rfl (And.intro rfl (And.intro rfl (And.intro rfl trivial))))
                  · refine s_goto (pc := 131) 146 dX12_measuresTo_131 rfl ?_
                    exact s_drop (hj45 (s30.1, s30.2.1) Le.rf) (And.intro rfl (And.intro rfl (And.intro rfl (And.intro rfl trivial))))
                · show S0 X _ s30.1 74 [some (.ref (gh (xG X) + a0)), none, some (.int s30.2.1), some (.int s22.2.2), some (.int s30.2.2), some (.int s48.1), some (.int s48.2)] [] _
                  refine s_iload (pc := 74) dX12_measuresTo_74 rfl ?_
                  refine s_aload_n (pc := 76) 0 dX12_measuresTo_76 rfl rfl ?_
                  refine s_geto (pc := 77) F_12 33 rfl o38 dX12_measuresTo_77 kf_X12_71 ?_
                  refine s_rvB (fun r56 => ?_)
                  refine s_iload (pc := 80) dX12_measuresTo_80 rfl ?_
                  refine s_grd (fun o57 => ?_)
                  refine s_grd (fun i58 => ?_)
                  refine s_iald (pc := 82) o57 i58 dX12_measuresTo_82 ?_
                  refine s_icge (pc := 83) 126 dX12_measuresTo_83 rfl ?_ ?_
                  · exact s_drop (hR53 s48.1 Le.rf) (And.intro rfl (And.intro rfl (And.intro rfl (And.intro rfl (And.intro rfl trivial)))))
                  · refine s_iload (pc := 86) dX12_measuresTo_86 rfl ?_
                    refine s_ifne (pc := 88) 126 dX12_measuresTo_88 rfl ?_ ?_
                    · exact s_drop (hR53 s48.1 Le.rf) (And.intro rfl (And.intro rfl (And.intro rfl (And.intro rfl (And.intro rfl trivial)))))
                    · refine s_aload_n (pc := 91) 0 dX12_measuresTo_91 rfl rfl ?_
                      refine s_geto (pc := 92) F_12 35 rfl o38 dX12_measuresTo_92 kf_X12_77 ?_
                      refine s_rvB (fun r59 => ?_)
                      refine s_aload_n (pc := 95) 0 dX12_measuresTo_95 rfl rfl ?_
                      refine s_geto (pc := 96) F_12 32 rfl o38 dX12_measuresTo_96 kf_X12_68 ?_
                      refine s_rvB (fun r60 => ?_)
                      refine s_bipush (pc := 99) 46 dX12_measuresTo_99 kb_46 ?_
                      refine s_iload (pc := 101) dX12_measuresTo_101 rfl ?_
                      refine s_imul (pc := 103) dX12_measuresTo_103 ?_
                      refine s_iload (pc := 104) dX12_measuresTo_104 rfl ?_
                      refine s_iadd (pc := 106) dX12_measuresTo_106 ?_
                      refine s_grd (fun o61 => ?_)
                      refine s_grd (fun i62 => ?_)
                      refine s_iald (pc := 107) o61 i62 dX12_measuresTo_107 ?_
                      refine s_grd (fun o63 => ?_)
                      refine s_grd (fun i64 => ?_)
                      refine s_iald (pc := 108) o63 i64 dX12_measuresTo_108 ?_
                      refine s_iload_n (pc := 109) 3 dX12_measuresTo_109 rfl rfl ?_
                      refine s_join s30.1 (fun s66 : Int32 => s30.1) 118 (fun s66 : Int32 => [some (.ref (gh (xG X) + a0)), none, some (.int s30.2.1), some (.int s22.2.2), some (.int s30.2.2), none, some (.int s48.2)]) (fun s66 : Int32 => [.int s66]) (fun s66 hs67 => ?_) (fun j65 hj68 => ?_)
                      · show S0 X _ s30.1 118 [some (.ref (gh (xG X) + a0)), none, some (.int s30.2.1), some (.int s22.2.2), some (.int s30.2.2), none, some (.int s48.2)] [.int s66] _
                        refine s_istore (pc := 118) dX12_measuresTo_118 (nlt rfl) rfl (L' := [some (.ref (gh (xG X) + a0)), none, some (.int s30.2.1), some (.int s22.2.2), some (.int s30.2.2), some (.int s66), some (.int s48.2)]) rfl ?_
                        refine s_iinc (pc := 120) dX12_measuresTo_120 rfl (v := s48.2 + 1) (congrArg (fun z : Int32 => s48.2 + z) kc_1) (nlt rfl) rfl (L' := [some (.ref (gh (xG X) + a0)), none, some (.int s30.2.1), some (.int s22.2.2), some (.int s30.2.2), some (.int s66), some (.int (s48.2 + 1))]) rfl ?_
                        refine s_bv (fun x69 : Int32 => [some (.ref (gh (xG X) + a0)), none, some (.int s30.2.1), some (.int s22.2.2), some (.int s30.2.2), some (.int s66), some (.int x69)]) (fun x69 => ?_) rfl
                        refine s_goto (pc := 123) 74 dX12_measuresTo_123 rfl ?_
                        exact s_drop (hT51 (s66, x69) Le.rf) (And.intro rfl (And.intro rfl (And.intro rfl (And.intro rfl (And.intro rfl (And.intro rfl trivial))))))
                      · refine s_icne (pc := 110) 117 dX12_measuresTo_110 rfl ?_ ?_
                        · refine s_iconst (pc := 117) 0 dX12_measuresTo_117 kc_0 ?_
                          exact s_drop (hj68 0 Le.rf) (And.intro rfl (And.intro rfl (And.intro rfl (And.intro rfl (And.intro rfl trivial)))))
                        · refine s_iconst (pc := 113) 1 dX12_measuresTo_113 kc_1 ?_
                          refine s_goto (pc := 114) 118 dX12_measuresTo_114 rfl ?_
                          exact s_drop (hj68 1 Le.rf) (And.intro rfl (And.intro rfl (And.intro rfl (And.intro rfl (And.intro rfl trivial)))))
              · refine s_goto (pc := 65) 146 dX12_measuresTo_65 rfl ?_
                exact s_drop (hj45 (s30.1, s30.2.1) Le.rf) (And.intro rfl (And.intro rfl (And.intro rfl (And.intro rfl trivial))))
  · show S0 X _ s1.1 2 [some (.ref (gh (xG X) + a0)), some (.int p1), some (.int s1.2), none, none, none, none] [] _
    refine s_iload_n (pc := 2) 2 dX12_measuresTo_2 rfl rfl ?_
    refine s_sipush (pc := 3) 9331 dX12_measuresTo_3 ks_9331 ?_
    refine s_icge (pc := 6) 32 dX12_measuresTo_6 rfl ?_ ?_
    · exact s_drop (hR6 s1.1 hs2) (And.intro rfl trivial)
    · refine s_aload_n (pc := 9) 0 dX12_measuresTo_9 rfl rfl ?_
      refine s_grd (fun o9 => ?_)
      refine s_geto (pc := 10) F_12 35 rfl o9 dX12_measuresTo_10 kf_X12_77 ?_
      refine s_rvB (fun r10 => ?_)
      refine s_iload_n (pc := 13) 2 dX12_measuresTo_13 rfl rfl ?_
      refine s_iload_n (pc := 14) 2 dX12_measuresTo_14 rfl rfl ?_
      refine s_iload_n (pc := 15) 1 dX12_measuresTo_15 rfl rfl ?_
      refine s_join s1.1 (fun s12 : Int32 => s1.1) 25 (fun s12 : Int32 => [some (.ref (gh (xG X) + a0)), some (.int p1), some (.int s1.2), none, none, none, none]) (fun s12 : Int32 => [.int s12, .int s1.2, .ref (gh (xG X) + r10)]) (fun s12 hs13 => ?_) (fun j11 hj14 => ?_)
      · show S0 X _ s1.1 25 [some (.ref (gh (xG X) + a0)), some (.int p1), some (.int s1.2), none, none, none, none] [.int s12, .int s1.2, .ref (gh (xG X) + r10)] _
        refine s_grd (fun o15 => ?_)
        refine s_grd (fun i16 => ?_)
        refine s_iast (pc := 25) o15 i16 dX12_measuresTo_25 (fun M17 hM18 => ?_)
        have h19 := le_wI hM18
        have o20 := h19.ok o9
        refine s_iinc (pc := 26) dX12_measuresTo_26 rfl (v := s1.2 + 1) (congrArg (fun z : Int32 => s1.2 + z) kc_1) (nlt rfl) rfl (L' := [some (.ref (gh (xG X) + a0)), some (.int p1), some (.int (s1.2 + 1)), none, none, none, none]) rfl ?_
        refine s_bv (fun x21 : Int32 => [some (.ref (gh (xG X) + a0)), some (.int p1), some (.int x21), none, none, none, none]) (fun x21 => ?_) rfl
        refine s_goto (pc := 29) 2 dX12_measuresTo_29 rfl ?_
        exact s_drop (hT4 (M17, x21) (hs2.tr h19)) (And.intro rfl (And.intro rfl (And.intro rfl trivial)))
      · refine s_icne (pc := 16) 23 dX12_measuresTo_16 rfl ?_ ?_
        · refine s_ldc (pc := 23) dX12_measuresTo_23 ki_X12_229 ?_
          exact s_drop (hj14 1000000 Le.rf) (And.intro rfl (And.intro rfl (And.intro rfl trivial)))
        · refine s_iconst (pc := 19) 0 dX12_measuresTo_19 kc_0 ?_
          refine s_goto (pc := 20) 25 dX12_measuresTo_20 rfl ?_
          exact s_drop (hj14 0 Le.rf) (And.intro rfl (And.intro rfl (And.intro rfl trivial)))
set_option maxRecDepth 100000 in
set_option maxHeartbeats 8000000 in
noncomputable def f_X12_ones (p0 : Int32) : Option Int32 :=
  Option.bind (loopO (σ := Int32 × Int32) (ρ := Int32) (fun s1 => if 12 ≤ s1.2 then (some (.inr s1.1)) else (bv (s1.1 + ((sr p0 s1.2) &&& 1) : Int32) (fun x9 => bv (s1.2 + 1 : Int32) (fun x10 => some (.inl (x9, x10)))))) (0, 0)) (fun (x7 : Int32) => some x7)
abbrev Y_X12_ones : Sta := (RX12, "ones", cX12_ones, 3, (some .int), 1)
set_option maxRecDepth 100000 in
set_option maxHeartbeats 8000000 in
theorem t_X12_ones {l : Launch} {G : Gh} {M : Mem} {p0 : Int32} {q : Int32} (h : f_X12_ones p0 = some q) : Ctr l G yX12_ones Y_X12_ones M [.int p0] M (some (.int q)) := by
  refine Ctr.of (Y := Y_X12_ones) (L := [some (.int p0), none, none]) (t := Option.bind (f_X12_ones p0) (fun q => some (M, some (.int q)))) (by decide) rfl rfl (nle rfl) (Lof_in 2 _ rfl) (fun X hG hl => ?_) (by rw [h]; rfl)
  subst hG
  subst hl
  unfold f_X12_ones
  refine s_iconst (pc := 0) 0 dX12_ones_0 kc_0 ?_
  refine s_istore_n (pc := 1) 1 dX12_ones_1 rfl (nlt rfl) rfl (L' := [some (.int p0), some (.int 0), none]) rfl ?_
  refine s_iconst (pc := 2) 0 dX12_ones_2 kc_0 ?_
  refine s_istore_n (pc := 3) 2 dX12_ones_3 rfl (nlt rfl) rfl (L' := [some (.int p0), some (.int 0), some (.int 0)]) rfl ?_
  refine s_drop (L' := [some (.int p0), some (.int 0), some (.int 0)]) ?_ (And.intro rfl (And.intro rfl (And.intro rfl trivial)))
  refine s_loop1 M (fun s1 : Int32 × Int32 => M) (fun s1 : Int32 × Int32 => [some (.int p0), some (.int s1.1), some (.int s1.2)]) (fun x7 : Int32 => M) 24 (fun x7 : Int32 => [none, some (.int x7), none]) (fun x7 hx8 => ?_) (fun T3 R5 hT4 hR6 s1 hs2 => ?_) (0, 0) Le.rf
  · show S0 X _ M 24 [none, some (.int x7), none] [] _
    refine s_iload_n (pc := 24) 1 dX12_ones_24 rfl rfl ?_
    exact s_iret rfl dX12_ones_25
  · show S0 X _ M 4 [some (.int p0), some (.int s1.1), some (.int s1.2)] [] _
    refine s_iload_n (pc := 4) 2 dX12_ones_4 rfl rfl ?_
    refine s_bipush (pc := 5) 12 dX12_ones_5 kb_12 ?_
    refine s_icge (pc := 7) 24 dX12_ones_7 rfl ?_ ?_
    · exact s_drop (hR6 s1.1 Le.rf) (And.intro rfl trivial)
    · refine s_iload_n (pc := 10) 1 dX12_ones_10 rfl rfl ?_
      refine s_iload_n (pc := 11) 0 dX12_ones_11 rfl rfl ?_
      refine s_iload_n (pc := 12) 2 dX12_ones_12 rfl rfl ?_
      refine s_ishr (pc := 13) dX12_ones_13 ?_
      refine s_iconst (pc := 14) 1 dX12_ones_14 kc_1 ?_
      refine s_iand (pc := 15) dX12_ones_15 ?_
      refine s_iadd (pc := 16) dX12_ones_16 ?_
      refine s_istore_n (pc := 17) 1 dX12_ones_17 rfl (nlt rfl) rfl (L' := [some (.int p0), some (.int (s1.1 + ((sr p0 s1.2) &&& 1))), some (.int s1.2)]) rfl ?_
      refine s_bv (fun x9 : Int32 => [some (.int p0), some (.int x9), some (.int s1.2)]) (fun x9 => ?_) rfl
      refine s_iinc (pc := 18) dX12_ones_18 rfl (v := s1.2 + 1) (congrArg (fun z : Int32 => s1.2 + z) kc_1) (nlt rfl) rfl (L' := [some (.int p0), some (.int x9), some (.int (s1.2 + 1))]) rfl ?_
      refine s_bv (fun x10 : Int32 => [some (.int p0), some (.int x9), some (.int x10)]) (fun x10 => ?_) rfl
      refine s_goto (pc := 21) 4 dX12_ones_21 rfl ?_
      exact s_drop (hT4 (x9, x10) Le.rf) (And.intro rfl (And.intro rfl (And.intro rfl trivial)))
set_option maxRecDepth 100000 in
set_option maxHeartbeats 8000000 in
noncomputable def f_X12_opens (M : Mem) (a0 : Nat) (p1 : Int32) : Option Mem :=
  grd (okO M 12 a0) (bv (wI M a0 7 0) (fun M2 => Option.bind (loopO (σ := Mem × Int32) (ρ := Mem) (fun s6 => if s6.2 ≤ 0 then (some (.inr s6.1)) else (bv (wI s6.1 a0 7 ((mI s6.1 a0 7) + 1)) (fun M15 => bv (s6.2 / 10 : Int32) (fun x19 => some (.inl (M15, x19)))))) (M2, p1)) (fun (x13 : Mem) => bv ((mI x13 a0 7) - 1 : Int32) (fun x21 => Option.bind (loopO (σ := Mem × Int32 × Int32) (ρ := Mem) (fun s22 => if s22.2.2 ≤ 0 then (some (.inr s22.1)) else (Option.bind (mR s22.1 a0 6) (fun r31 => grd (okO s22.1 14 r31) (grd (vp_in s22.2.1 (mL s22.1 r31)) (bv (wI s22.1 r31 s22.2.1.toNatClampNeg ((ir s22.2.2 10) - 1)) (fun M34 => bv (s22.2.1 + (-1) : Int32) (fun x38 => bv (s22.2.2 / 10 : Int32) (fun x39 => some (.inl (M34, x38, x39)))))))))) (x13, x21, p1)) (fun (x29 : Mem) => some x29)))))
abbrev Y_X12_opens : Sta := (RX12, "opens", cX12_opens, 4, none, 1)
set_option maxRecDepth 100000 in
set_option maxHeartbeats 8000000 in
theorem t_X12_opens {l : Launch} {G : Gh} {M : Mem} {a0 : Nat} {p1 : Int32} {q : Mem} (h : f_X12_opens M a0 p1 = some q) : Ctr l G yX12_opens Y_X12_opens M [.ref (gh G + a0), .int p1] q (none) := by
  refine Ctr.of (Y := Y_X12_opens) (L := [some (.ref (gh G + a0)), some (.int p1), none, none]) (t := Option.bind (f_X12_opens M a0 p1) (fun q => some (q, (none : Option Value)))) (by decide) rfl rfl (nle rfl) (Lof_in 2 _ rfl) (fun X hG hl => ?_) (by rw [h]; rfl)
  subst hG
  subst hl
  unfold f_X12_opens
  refine s_aload_n (pc := 0) 0 dX12_opens_0 rfl rfl ?_
  refine s_iconst (pc := 1) 0 dX12_opens_1 kc_0 ?_
  refine s_grd (fun o1 => ?_)
  refine s_puti (pc := 2) F_12 7 rfl o1 rfl rfl rfl dX12_opens_2 kf_X12_142 (fun M2 hM3 => ?_)
  have h4 := le_wI hM3
  have o5 := h4.ok o1
  refine s_iload_n (pc := 5) 1 dX12_opens_5 rfl rfl ?_
  refine s_istore_n (pc := 6) 2 dX12_opens_6 rfl (nlt rfl) rfl (L' := [some (.ref (gh (xG X) + a0)), some (.int p1), some (.int p1), none]) rfl ?_
  refine s_drop (L' := [some (.ref (gh (xG X) + a0)), some (.int p1), some (.int p1), none]) ?_ (And.intro rfl (And.intro rfl (And.intro rfl trivial)))
  refine s_loop1 M2 (fun s6 : Mem × Int32 => s6.1) (fun s6 : Mem × Int32 => [some (.ref (gh (xG X) + a0)), some (.int p1), some (.int s6.2), none]) (fun x13 : Mem => x13) 29 (fun x13 : Mem => [some (.ref (gh (xG X) + a0)), some (.int p1), none, none]) (fun x13 hx14 => ?_) (fun T8 R10 hT9 hR11 s6 hs7 => ?_) (M2, p1) Le.rf
  · show S0 X _ x13 29 [some (.ref (gh (xG X) + a0)), some (.int p1), none, none] [] _
    have o20 := hx14.ok o5
    refine s_aload_n (pc := 29) 0 dX12_opens_29 rfl rfl ?_
    refine s_geti (pc := 30) F_12 7 rfl o20 dX12_opens_30 kf_X12_142 ?_
    refine s_iconst (pc := 33) 1 dX12_opens_33 kc_1 ?_
    refine s_isub (pc := 34) dX12_opens_34 ?_
    refine s_istore_n (pc := 35) 2 dX12_opens_35 rfl (nlt rfl) rfl (L' := [some (.ref (gh (xG X) + a0)), some (.int p1), some (.int ((mI x13 a0 7) - 1)), none]) rfl ?_
    refine s_bv (fun x21 : Int32 => [some (.ref (gh (xG X) + a0)), some (.int p1), some (.int x21), none]) (fun x21 => ?_) rfl
    refine s_iload_n (pc := 36) 1 dX12_opens_36 rfl rfl ?_
    refine s_istore_n (pc := 37) 3 dX12_opens_37 rfl (nlt rfl) rfl (L' := [some (.ref (gh (xG X) + a0)), some (.int p1), some (.int x21), some (.int p1)]) rfl ?_
    refine s_drop (L' := [some (.ref (gh (xG X) + a0)), none, some (.int x21), some (.int p1)]) ?_ (And.intro rfl (And.intro rfl (And.intro rfl trivial)))
    refine s_loop1 x13 (fun s22 : Mem × Int32 × Int32 => s22.1) (fun s22 : Mem × Int32 × Int32 => [some (.ref (gh (xG X) + a0)), none, some (.int s22.2.1), some (.int s22.2.2)]) (fun x29 : Mem => x29) 65 (fun x29 : Mem => [none, none, none, none]) (fun x29 hx30 => ?_) (fun T24 R26 hT25 hR27 s22 hs23 => ?_) (x13, x21, p1) Le.rf
    · show S0 X _ x29 65 [none, none, none, none] [] _
      exact s_vret rfl dX12_opens_65
    · show S0 X _ s22.1 38 [some (.ref (gh (xG X) + a0)), none, some (.int s22.2.1), some (.int s22.2.2)] [] _
      have o28 := hs23.ok o20
      refine s_iload_n (pc := 38) 3 dX12_opens_38 rfl rfl ?_
      refine s_ifle (pc := 39) 65 dX12_opens_39 rfl ?_ ?_
      · exact s_drop (hR27 s22.1 hs23) trivial
      · refine s_aload_n (pc := 42) 0 dX12_opens_42 rfl rfl ?_
        refine s_geto (pc := 43) F_12 6 rfl o28 dX12_opens_43 kf_X12_30 ?_
        refine s_rvB (fun r31 => ?_)
        refine s_iload_n (pc := 46) 2 dX12_opens_46 rfl rfl ?_
        refine s_iload_n (pc := 47) 3 dX12_opens_47 rfl rfl ?_
        refine s_bipush (pc := 48) 10 dX12_opens_48 kb_10 ?_
        refine s_irem (pc := 50) dX12_opens_50 (by decide) ?_
        refine s_iconst (pc := 51) 1 dX12_opens_51 kc_1 ?_
        refine s_isub (pc := 52) dX12_opens_52 ?_
        refine s_grd (fun o32 => ?_)
        refine s_grd (fun i33 => ?_)
        refine s_iast (pc := 53) o32 i33 dX12_opens_53 (fun M34 hM35 => ?_)
        have h36 := le_wI hM35
        have o37 := h36.ok o28
        refine s_iinc (pc := 54) dX12_opens_54 rfl (v := s22.2.1 + (-1)) (congrArg (fun z : Int32 => s22.2.1 + z) kc_m1) (nlt rfl) rfl (L' := [some (.ref (gh (xG X) + a0)), none, some (.int (s22.2.1 + (-1))), some (.int s22.2.2)]) rfl ?_
        refine s_bv (fun x38 : Int32 => [some (.ref (gh (xG X) + a0)), none, some (.int x38), some (.int s22.2.2)]) (fun x38 => ?_) rfl
        refine s_iload_n (pc := 57) 3 dX12_opens_57 rfl rfl ?_
        refine s_bipush (pc := 58) 10 dX12_opens_58 kb_10 ?_
        refine s_idiv (pc := 60) dX12_opens_60 (by decide) ?_
        refine s_istore_n (pc := 61) 3 dX12_opens_61 rfl (nlt rfl) rfl (L' := [some (.ref (gh (xG X) + a0)), none, some (.int x38), some (.int (s22.2.2 / 10))]) rfl ?_
        refine s_bv (fun x39 : Int32 => [some (.ref (gh (xG X) + a0)), none, some (.int x38), some (.int x39)]) (fun x39 => ?_) rfl
        refine s_goto (pc := 62) 38 dX12_opens_62 rfl ?_
        exact s_drop (hT25 (M34, x38, x39) (hs23.tr h36)) (And.intro rfl (And.intro rfl (And.intro rfl trivial)))
  · show S0 X _ s6.1 7 [some (.ref (gh (xG X) + a0)), some (.int p1), some (.int s6.2), none] [] _
    have o12 := hs7.ok o5
    refine s_iload_n (pc := 7) 2 dX12_opens_7 rfl rfl ?_
    refine s_ifle (pc := 8) 29 dX12_opens_8 rfl ?_ ?_
    · exact s_drop (hR11 s6.1 hs7) (And.intro rfl (And.intro rfl trivial))
    · refine s_aload_n (pc := 11) 0 dX12_opens_11 rfl rfl ?_
      refine s_dup (pc := 12) dX12_opens_12 rfl ?_
      refine s_geti (pc := 13) F_12 7 rfl o12 dX12_opens_13 kf_X12_142 ?_
      refine s_iconst (pc := 16) 1 dX12_opens_16 kc_1 ?_
      refine s_iadd (pc := 17) dX12_opens_17 ?_
      refine s_puti (pc := 18) F_12 7 rfl o12 rfl rfl rfl dX12_opens_18 kf_X12_142 (fun M15 hM16 => ?_)
      have h17 := le_wI hM16
      have o18 := h17.ok o12
      refine s_iload_n (pc := 21) 2 dX12_opens_21 rfl rfl ?_
      refine s_bipush (pc := 22) 10 dX12_opens_22 kb_10 ?_
      refine s_idiv (pc := 24) dX12_opens_24 (by decide) ?_
      refine s_istore_n (pc := 25) 2 dX12_opens_25 rfl (nlt rfl) rfl (L' := [some (.ref (gh (xG X) + a0)), some (.int p1), some (.int (s6.2 / 10)), none]) rfl ?_
      refine s_bv (fun x19 : Int32 => [some (.ref (gh (xG X) + a0)), some (.int p1), some (.int x19), none]) (fun x19 => ?_) rfl
      refine s_goto (pc := 26) 7 dX12_opens_26 rfl ?_
      exact s_drop (hT9 (M15, x19) (hs7.tr h17)) (And.intro rfl (And.intro rfl (And.intro rfl trivial)))
