set_option maxRecDepth 100000 in
set_option maxHeartbeats 8000000 in
noncomputable def f_X2_undoSwap (M : Mem) (a0 : Nat) (p1 : Int32) (p2 : Int32) (p3 : Int32) : Option Mem :=
  grd (vp_in p2 7) (bv (p1 - (stV p2.toNatClampNeg) : Int32) (fun x2 => bv (ir x2 6 : Int32) (fun x3 => bv (p2 - 2 : Int32) (fun x4 => Option.bind (loopO (σ := Mem × Int32 × Int32 × Int32 × Int32) (ρ := Mem) (fun s5 => if s5.2.2.2.2 < 0 then (some (.inr s5.1)) else (bv (s5.2.1 / 6 : Int32) (fun x13 => bv (ir x13 6 : Int32) (fun x14 => bv (p1 + (((s5.2.2.1 - x14) * s5.2.2.2.1) * 5) : Int32) (fun x15 => bv (fun (s17 : Mem) => bv (s5.2.2.2.1 * 6 : Int32) (fun x20 => bv (s5.2.2.2.2 + (-1) : Int32) (fun x21 => some (.inl (s17, x13, x14, x20, x21))))) (fun j16 => if x15 < 0 then (j16 s5.1) else (if 9331 ≤ x15 then (j16 s5.1) else (grd (okO s5.1 2 a0) (Option.bind (mR s5.1 a0 2) (fun r23 => grd (okO s5.1 16 r23) (grd (vp_in x15 (mL s5.1 r23)) (if (mI s5.1 r23 x15.toNatClampNeg) = (-1) then (Option.bind (mR s5.1 a0 1) (fun r26 => grd (okO s5.1 8 r26) (Option.bind (f_X8_weightOf s5.1 r26 2 s5.2.2.1 s5.2.2.2.2 p2 ((sr p3 (3 * s5.2.2.1)) &&& 7)) (fun q28 => if q28.2 = (-1) then (j16 q28.1) else (Option.bind (f_X2_note q28.1 a0 x15) (fun q33 => j16 q33)))))) else (j16 s5.1))))))))))))) (M, x2, x3, 1, x4)) (fun (x11 : Mem) => some x11)))))
abbrev Y_X2_undoSwap : Sta := (RX2, "undoSwap", cX2_undoSwap, 10, none, 5)
set_option maxRecDepth 100000 in
set_option maxHeartbeats 8000000 in
theorem t_X2_undoSwap {l : Launch} {G : Gh} {M : Mem} {a0 : Nat} {p1 : Int32} {p2 : Int32} {p3 : Int32} {q : Mem} (h : f_X2_undoSwap M a0 p1 p2 p3 = some q) : Ctr l G yX2_undoSwap Y_X2_undoSwap M [.ref (gh G + a0), .int p1, .int p2, .int p3] q (none) := by
  refine Ctr.of (Y := Y_X2_undoSwap) (L := [some (.ref (gh G + a0)), some (.int p1), some (.int p2), some (.int p3), none, none, none, none, none, none]) (t := Option.bind (f_X2_undoSwap M a0 p1 p2 p3) (fun q => some (q, (none : Option Value)))) (by decide) rfl rfl (nle rfl) (Lof_in 6 _ rfl) (fun X hG hl => ?_) (by rw [h]; rfl)
  subst hG
  subst hl
  unfold f_X2_undoSwap
  refine s_iload_n (pc := 0) 1 dX2_undoSwap_0 rfl rfl ?_
  refine s_start (pc := 1) dX2_undoSwap_1 (List.mem_of_getElem? (i := 24) rfl) ?_
  refine s_iload_n (pc := 4) 2 dX2_undoSwap_4 rfl rfl ?_
  refine s_grd (fun i1 => ?_)
  refine s_sti (pc := 5) i1 dX2_undoSwap_5 ?_
  refine s_isub (pc := 6) dX2_undoSwap_6 ?_
  refine s_istore (pc := 7) dX2_undoSwap_7 (nlt rfl) rfl (L' := [some (.ref (gh (xG X) + a0)), some (.int p1), some (.int p2), some (.int p3), some (.int (p1 - (stV p2.toNatClampNeg))), none, none, none, none, none]) rfl ?_
  refine s_bv (fun x2 : Int32 => [some (.ref (gh (xG X) + a0)), some (.int p1), some (.int p2), some (.int p3), some (.int x2), none, none, none, none, none]) (fun x2 => ?_) rfl
  refine s_iload (pc := 9) dX2_undoSwap_9 rfl ?_
  refine s_bipush (pc := 11) 6 dX2_undoSwap_11 kb_6 ?_
  refine s_irem (pc := 13) dX2_undoSwap_13 (by decide) ?_
  refine s_istore (pc := 14) dX2_undoSwap_14 (nlt rfl) rfl (L' := [some (.ref (gh (xG X) + a0)), some (.int p1), some (.int p2), some (.int p3), some (.int x2), some (.int (ir x2 6)), none, none, none, none]) rfl ?_
  refine s_bv (fun x3 : Int32 => [some (.ref (gh (xG X) + a0)), some (.int p1), some (.int p2), some (.int p3), some (.int x2), some (.int x3), none, none, none, none]) (fun x3 => ?_) rfl
  refine s_iconst (pc := 16) 1 dX2_undoSwap_16 kc_1 ?_
  refine s_istore (pc := 17) dX2_undoSwap_17 (nlt rfl) rfl (L' := [some (.ref (gh (xG X) + a0)), some (.int p1), some (.int p2), some (.int p3), some (.int x2), some (.int x3), some (.int 1), none, none, none]) rfl ?_
  refine s_iload_n (pc := 19) 2 dX2_undoSwap_19 rfl rfl ?_
  refine s_iconst (pc := 20) 2 dX2_undoSwap_20 kc_2 ?_
  refine s_isub (pc := 21) dX2_undoSwap_21 ?_
  refine s_istore (pc := 22) dX2_undoSwap_22 (nlt rfl) rfl (L' := [some (.ref (gh (xG X) + a0)), some (.int p1), some (.int p2), some (.int p3), some (.int x2), some (.int x3), some (.int 1), some (.int (p2 - 2)), none, none]) rfl ?_
  refine s_bv (fun x4 : Int32 => [some (.ref (gh (xG X) + a0)), some (.int p1), some (.int p2), some (.int p3), some (.int x2), some (.int x3), some (.int 1), some (.int x4), none, none]) (fun x4 => ?_) rfl
  refine s_drop (L' := [some (.ref (gh (xG X) + a0)), some (.int p1), some (.int p2), some (.int p3), some (.int x2), some (.int x3), some (.int 1), some (.int x4), none, none]) ?_ (And.intro rfl (And.intro rfl (And.intro rfl (And.intro rfl (And.intro rfl (And.intro rfl (And.intro rfl (And.intro rfl trivial))))))))
  refine s_loop1 M (fun s5 : Mem × Int32 × Int32 × Int32 × Int32 => s5.1) (fun s5 : Mem × Int32 × Int32 × Int32 × Int32 => [some (.ref (gh (xG X) + a0)), some (.int p1), some (.int p2), some (.int p3), some (.int s5.2.1), some (.int s5.2.2.1), some (.int s5.2.2.2.1), some (.int s5.2.2.2.2), none, none]) (fun x11 : Mem => x11) 130 (fun x11 : Mem => [none, none, none, none, none, none, none, none, none, none]) (fun x11 hx12 => ?_) (fun T7 R9 hT8 hR10 s5 hs6 => ?_) (M, x2, x3, 1, x4) Le.rf
  · show S0 X _ x11 130 [none, none, none, none, none, none, none, none, none, none] [] _
    exact s_vret rfl dX2_undoSwap_130
  · show S0 X _ s5.1 24 [some (.ref (gh (xG X) + a0)), some (.int p1), some (.int p2), some (.int p3), some (.int s5.2.1), some (.int s5.2.2.1), some (.int s5.2.2.2.1), some (.int s5.2.2.2.2), none, none] [] _
    refine s_iload (pc := 24) dX2_undoSwap_24 rfl ?_
    refine s_iflt (pc := 26) 130 dX2_undoSwap_26 rfl ?_ ?_
    · exact s_drop (hR10 s5.1 hs6) trivial
    · refine s_iload (pc := 29) dX2_undoSwap_29 rfl ?_
      refine s_bipush (pc := 31) 6 dX2_undoSwap_31 kb_6 ?_
      refine s_idiv (pc := 33) dX2_undoSwap_33 (by decide) ?_
      refine s_istore (pc := 34) dX2_undoSwap_34 (nlt rfl) rfl (L' := [some (.ref (gh (xG X) + a0)), some (.int p1), some (.int p2), some (.int p3), some (.int (s5.2.1 / 6)), some (.int s5.2.2.1), some (.int s5.2.2.2.1), some (.int s5.2.2.2.2), none, none]) rfl ?_
      refine s_bv (fun x13 : Int32 => [some (.ref (gh (xG X) + a0)), some (.int p1), some (.int p2), some (.int p3), some (.int x13), some (.int s5.2.2.1), some (.int s5.2.2.2.1), some (.int s5.2.2.2.2), none, none]) (fun x13 => ?_) rfl
      refine s_iload (pc := 36) dX2_undoSwap_36 rfl ?_
      refine s_bipush (pc := 38) 6 dX2_undoSwap_38 kb_6 ?_
      refine s_irem (pc := 40) dX2_undoSwap_40 (by decide) ?_
      refine s_istore (pc := 41) dX2_undoSwap_41 (nlt rfl) rfl (L' := [some (.ref (gh (xG X) + a0)), some (.int p1), some (.int p2), some (.int p3), some (.int x13), some (.int s5.2.2.1), some (.int s5.2.2.2.1), some (.int s5.2.2.2.2), some (.int (ir x13 6)), none]) rfl ?_
      refine s_bv (fun x14 : Int32 => [some (.ref (gh (xG X) + a0)), some (.int p1), some (.int p2), some (.int p3), some (.int x13), some (.int s5.2.2.1), some (.int s5.2.2.2.1), some (.int s5.2.2.2.2), some (.int x14), none]) (fun x14 => ?_) rfl
      refine s_iload_n (pc := 43) 1 dX2_undoSwap_43 rfl rfl ?_
      refine s_iload (pc := 44) dX2_undoSwap_44 rfl ?_
      refine s_iload (pc := 46) dX2_undoSwap_46 rfl ?_
      refine s_isub (pc := 48) dX2_undoSwap_48 ?_
      refine s_iload (pc := 49) dX2_undoSwap_49 rfl ?_
      refine s_imul (pc := 51) dX2_undoSwap_51 ?_
      refine s_iconst (pc := 52) 5 dX2_undoSwap_52 kc_5 ?_
      refine s_imul (pc := 53) dX2_undoSwap_53 ?_
      refine s_iadd (pc := 54) dX2_undoSwap_54 ?_
      refine s_istore (pc := 55) dX2_undoSwap_55 (nlt rfl) rfl (L' := [some (.ref (gh (xG X) + a0)), some (.int p1), some (.int p2), some (.int p3), some (.int x13), some (.int s5.2.2.1), some (.int s5.2.2.2.1), some (.int s5.2.2.2.2), some (.int x14), some (.int (p1 + (((s5.2.2.1 - x14) * s5.2.2.2.1) * 5)))]) rfl ?_
      refine s_bv (fun x15 : Int32 => [some (.ref (gh (xG X) + a0)), some (.int p1), some (.int p2), some (.int p3), some (.int x13), some (.int s5.2.2.1), some (.int s5.2.2.2.1), some (.int s5.2.2.2.2), some (.int x14), some (.int x15)]) (fun x15 => ?_) rfl
      refine s_iload (pc := 57) dX2_undoSwap_57 rfl ?_
      refine s_join s5.1 (fun s17 : Mem => s17) 113 (fun s17 : Mem => [some (.ref (gh (xG X) + a0)), some (.int p1), some (.int p2), some (.int p3), some (.int x13), none, some (.int s5.2.2.2.1), some (.int s5.2.2.2.2), some (.int x14), none]) (fun s17 : Mem => []) (fun s17 hs18 => ?_) (fun j16 hj19 => ?_)
      · show S0 X _ s17 113 [some (.ref (gh (xG X) + a0)), some (.int p1), some (.int p2), some (.int p3), some (.int x13), none, some (.int s5.2.2.2.1), some (.int s5.2.2.2.2), some (.int x14), none] [] _
        refine s_iload (pc := 113) dX2_undoSwap_113 rfl ?_
        refine s_bipush (pc := 115) 6 dX2_undoSwap_115 kb_6 ?_
        refine s_imul (pc := 117) dX2_undoSwap_117 ?_
        refine s_istore (pc := 118) dX2_undoSwap_118 (nlt rfl) rfl (L' := [some (.ref (gh (xG X) + a0)), some (.int p1), some (.int p2), some (.int p3), some (.int x13), none, some (.int (s5.2.2.2.1 * 6)), some (.int s5.2.2.2.2), some (.int x14), none]) rfl ?_
        refine s_bv (fun x20 : Int32 => [some (.ref (gh (xG X) + a0)), some (.int p1), some (.int p2), some (.int p3), some (.int x13), none, some (.int x20), some (.int s5.2.2.2.2), some (.int x14), none]) (fun x20 => ?_) rfl
        refine s_iload (pc := 120) dX2_undoSwap_120 rfl ?_
        refine s_istore (pc := 122) dX2_undoSwap_122 (nlt rfl) rfl (L' := [some (.ref (gh (xG X) + a0)), some (.int p1), some (.int p2), some (.int p3), some (.int x13), some (.int x14), some (.int x20), some (.int s5.2.2.2.2), some (.int x14), none]) rfl ?_
        refine s_iinc (pc := 124) dX2_undoSwap_124 rfl (v := s5.2.2.2.2 + (-1)) (congrArg (fun z : Int32 => s5.2.2.2.2 + z) kc_m1) (nlt rfl) rfl (L' := [some (.ref (gh (xG X) + a0)), some (.int p1), some (.int p2), some (.int p3), some (.int x13), some (.int x14), some (.int x20), some (.int (s5.2.2.2.2 + (-1))), some (.int x14), none]) rfl ?_
        refine s_bv (fun x21 : Int32 => [some (.ref (gh (xG X) + a0)), some (.int p1), some (.int p2), some (.int p3), some (.int x13), some (.int x14), some (.int x20), some (.int x21), some (.int x14), none]) (fun x21 => ?_) rfl
        refine s_goto (pc := 127) 24 dX2_undoSwap_127 rfl ?_
        exact s_drop (hT8 (s17, x13, x14, x20, x21) (hs6.tr hs18)) (And.intro rfl (And.intro rfl (And.intro rfl (And.intro rfl (And.intro rfl (And.intro rfl (And.intro rfl (And.intro rfl trivial))))))))
      · refine s_iflt (pc := 59) 113 dX2_undoSwap_59 rfl ?_ ?_
        · exact s_drop (hj19 s5.1 Le.rf) (And.intro rfl (And.intro rfl (And.intro rfl (And.intro rfl (And.intro rfl (And.intro rfl (And.intro rfl (And.intro rfl trivial))))))))
        · refine s_iload (pc := 62) dX2_undoSwap_62 rfl ?_
          refine s_sipush (pc := 64) 9331 dX2_undoSwap_64 ks_9331 ?_
          refine s_icge (pc := 67) 113 dX2_undoSwap_67 rfl ?_ ?_
          · exact s_drop (hj19 s5.1 Le.rf) (And.intro rfl (And.intro rfl (And.intro rfl (And.intro rfl (And.intro rfl (And.intro rfl (And.intro rfl (And.intro rfl trivial))))))))
          · refine s_aload_n (pc := 70) 0 dX2_undoSwap_70 rfl rfl ?_
            refine s_grd (fun o22 => ?_)
            refine s_geto (pc := 71) F_2 2 rfl o22 dX2_undoSwap_71 kf_X2_9 ?_
            refine s_rvB (fun r23 => ?_)
            refine s_iload (pc := 74) dX2_undoSwap_74 rfl ?_
            refine s_grd (fun o24 => ?_)
            refine s_grd (fun i25 => ?_)
            refine s_sald (pc := 76) o24 i25 dX2_undoSwap_76 ?_
            refine s_iconst (pc := 77) (-1) dX2_undoSwap_77 kc_m1 ?_
            refine s_icne (pc := 78) 113 dX2_undoSwap_78 rfl ?_ ?_
            · exact s_drop (hj19 s5.1 Le.rf) (And.intro rfl (And.intro rfl (And.intro rfl (And.intro rfl (And.intro rfl (And.intro rfl (And.intro rfl (And.intro rfl trivial))))))))
            · refine s_aload_n (pc := 81) 0 dX2_undoSwap_81 rfl rfl ?_
              refine s_geto (pc := 82) F_2 1 rfl o22 dX2_undoSwap_82 kf_X2_22 ?_
              refine s_rvB (fun r26 => ?_)
              refine s_iconst (pc := 85) 2 dX2_undoSwap_85 kc_2 ?_
              refine s_iload (pc := 86) dX2_undoSwap_86 rfl ?_
              refine s_iload (pc := 88) dX2_undoSwap_88 rfl ?_
              refine s_iload_n (pc := 90) 2 dX2_undoSwap_90 rfl rfl ?_
              refine s_iload_n (pc := 91) 3 dX2_undoSwap_91 rfl rfl ?_
              refine s_iconst (pc := 92) 3 dX2_undoSwap_92 kc_3 ?_
              refine s_iload (pc := 93) dX2_undoSwap_93 rfl ?_
              refine s_imul (pc := 95) dX2_undoSwap_95 ?_
              refine s_ishr (pc := 96) dX2_undoSwap_96 ?_
              refine s_bipush (pc := 97) 7 dX2_undoSwap_97 kb_7 ?_
              refine s_iand (pc := 99) dX2_undoSwap_99 ?_
              refine s_grd (fun o27 => ?_)
              refine s_bind (fun q28 hq29 => ?_)
              have hC30 := t_X8_weightOf (l := xl X) (G := xG X) hq29
              refine s_callV (pc := 100) (As := [.int 2, .int s5.2.2.1, .int s5.2.2.2.2, .int p2, .int ((sr p3 (3 * s5.2.2.1)) &&& 7)]) (st := []) (nlt rfl) (q := (RX8, TX8, 7)) rfl rfl o27 cl_X8_weightOf wi_X8_weightOf wl_X8_weightOf km_X2_97 rfl rfl (nle rfl) (nle rfl) (nle rfl) dX2_undoSwap_100 hC30 ?_
              have h31 := hC30.1 X
              have o32 := h31.ok o22
              show S0 X _ q28.1 103 [some (.ref (gh (xG X) + a0)), some (.int p1), some (.int p2), some (.int p3), some (.int x13), some (.int s5.2.2.1), some (.int s5.2.2.2.1), some (.int s5.2.2.2.2), some (.int x14), some (.int x15)] [.int q28.2] _
              refine s_iconst (pc := 103) (-1) dX2_undoSwap_103 kc_m1 ?_
              refine s_iceq (pc := 104) 113 dX2_undoSwap_104 rfl ?_ ?_
              · exact s_drop (hj19 q28.1 h31) (And.intro rfl (And.intro rfl (And.intro rfl (And.intro rfl (And.intro rfl (And.intro rfl (And.intro rfl (And.intro rfl trivial))))))))
              · refine s_aload_n (pc := 107) 0 dX2_undoSwap_107 rfl rfl ?_
                refine s_iload (pc := 108) dX2_undoSwap_108 rfl ?_
                refine s_bind (fun q33 hq34 => ?_)
                have hC35 := t_X2_note (l := xl X) (G := xG X) hq34
                refine s_callV (pc := 110) (As := [.int x15]) (st := []) (nlt rfl) (q := (RX2, TX2, 11)) rfl rfl o32 cl_X2_note wi_X2_note wl_X2_note km_X2_62 rfl rfl (nle rfl) (nle rfl) (nle rfl) dX2_undoSwap_110 hC35 ?_
                have h36 := hC35.1 X
                have o37 := h36.ok o32
                show S0 X _ q33 113 [some (.ref (gh (xG X) + a0)), some (.int p1), some (.int p2), some (.int p3), some (.int x13), some (.int s5.2.2.1), some (.int s5.2.2.2.1), some (.int s5.2.2.2.2), some (.int x14), some (.int x15)] [] _
                exact s_drop (hj19 q33 (h31.tr h36)) (And.intro rfl (And.intro rfl (And.intro rfl (And.intro rfl (And.intro rfl (And.intro rfl (And.intro rfl (And.intro rfl trivial))))))))
set_option maxRecDepth 100000 in
set_option maxHeartbeats 8000000 in
noncomputable def f_X7_wordOf (M : Mem) (a0 : Nat) (p1 : Int32) (p2 : Int32) : Option Int32 :=
  Option.bind (loopO (σ := Int32 × Int32 × Int32 × Int32) (ρ := Unit ⊕ Int32) (fun s1 => if 129 < s1.2.2.2 then (some (.inr (.inl ()))) else (bv (fun (s14 : Int32 × Int32 × Int32) => bv (s1.2.2.2 + 1 : Int32) (fun x17 => some (.inl (s14.1, s14.2.1, s14.2.2, x17)))) (fun j13 => bv (fun (s19 : Unit) => bv (fun (s23 : Unit) => bv (s1.1 + 1 : Int32) (fun x26 => j13 (x26, 0, 1))) (fun j22 => if s1.2.2.1 = 0 then (j22 ()) else (if s1.2.1 = (p2 - p1) then (some (.inr (.inr s1.1))) else (j22 ())))) (fun j18 => if 129 ≤ s1.2.2.2 then (j18 ()) else (grd (vp_in s1.2.2.2 129) (if (txC s1.2.2.2) = 32 then (j18 ()) else (bv (fun (s29 : Int32) => bv (s1.2.1 + 1 : Int32) (fun x32 => j13 (s1.1, x32, s29))) (fun j28 => bv (fun (s34 : Unit) => j28 0) (fun j33 => if s1.2.2.1 = 0 then (j33 ()) else (if (p2 - p1) ≤ s1.2.1 then (j33 ()) else (grd (okO M 7 a0) (Option.bind (f_X7_byteAt M a0 (p1 + s1.2.1)) (fun q38 => if q38 = (txC s1.2.2.2) then (j28 1) else (j33 ())))))))))))))) (258, 0, 1, 0)) (Sum.elim (fun (x9 : Unit) => some 257) (fun (x11 : Int32) => some x11))
abbrev Y_X7_wordOf : Sta := (RX7, "wordOf", cX7_wordOf, 7, (some .int), 5)
set_option maxRecDepth 100000 in
set_option maxHeartbeats 8000000 in
theorem t_X7_wordOf {l : Launch} {G : Gh} {M : Mem} {a0 : Nat} {p1 : Int32} {p2 : Int32} {q : Int32} (h : f_X7_wordOf M a0 p1 p2 = some q) : Ctr l G yX7_wordOf Y_X7_wordOf M [.ref (gh G + a0), .int p1, .int p2] M (some (.int q)) := by
  refine Ctr.of (Y := Y_X7_wordOf) (L := [some (.ref (gh G + a0)), some (.int p1), some (.int p2), none, none, none, none]) (t := Option.bind (f_X7_wordOf M a0 p1 p2) (fun q => some (M, some (.int q)))) (by decide) rfl rfl (nle rfl) (Lof_in 4 _ rfl) (fun X hG hl => ?_) (by rw [h]; rfl)
  subst hG
  subst hl
  unfold f_X7_wordOf
  refine s_sipush (pc := 0) 258 dX7_wordOf_0 ks_258 ?_
  refine s_istore_n (pc := 3) 3 dX7_wordOf_3 rfl (nlt rfl) rfl (L' := [some (.ref (gh (xG X) + a0)), some (.int p1), some (.int p2), some (.int 258), none, none, none]) rfl ?_
  refine s_iconst (pc := 4) 0 dX7_wordOf_4 kc_0 ?_
  refine s_istore (pc := 5) dX7_wordOf_5 (nlt rfl) rfl (L' := [some (.ref (gh (xG X) + a0)), some (.int p1), some (.int p2), some (.int 258), some (.int 0), none, none]) rfl ?_
  refine s_iconst (pc := 7) 1 dX7_wordOf_7 kc_1 ?_
  refine s_istore (pc := 8) dX7_wordOf_8 (nlt rfl) rfl (L' := [some (.ref (gh (xG X) + a0)), some (.int p1), some (.int p2), some (.int 258), some (.int 0), some (.int 1), none]) rfl ?_
  refine s_iconst (pc := 10) 0 dX7_wordOf_10 kc_0 ?_
  refine s_istore (pc := 11) dX7_wordOf_11 (nlt rfl) rfl (L' := [some (.ref (gh (xG X) + a0)), some (.int p1), some (.int p2), some (.int 258), some (.int 0), some (.int 1), some (.int 0)]) rfl ?_
  refine s_drop (L' := [some (.ref (gh (xG X) + a0)), some (.int p1), some (.int p2), some (.int 258), some (.int 0), some (.int 1), some (.int 0)]) ?_ (And.intro rfl (And.intro rfl (And.intro rfl (And.intro rfl (And.intro rfl (And.intro rfl (And.intro rfl trivial)))))))
  refine s_loop2 M (fun s1 : Int32 × Int32 × Int32 × Int32 => M) (fun s1 : Int32 × Int32 × Int32 × Int32 => [some (.ref (gh (xG X) + a0)), some (.int p1), some (.int p2), some (.int s1.1), some (.int s1.2.1), some (.int s1.2.2.1), some (.int s1.2.2.2)]) (fun x9 : Unit => M) 119 (fun x9 : Unit => [none, none, none, none, none, none, none]) (fun x11 : Int32 => M) 102 (fun x11 : Int32 => [none, none, none, some (.int x11), none, none, none]) (fun x9 hx10 => ?_) (fun x11 hx12 => ?_) (fun T3 R5 R7 hT4 hR6 hR8 s1 hs2 => ?_) (258, 0, 1, 0) Le.rf
  · show S0 X _ M 119 [none, none, none, none, none, none, none] [] _
    refine s_sipush (pc := 119) 257 dX7_wordOf_119 ks_257 ?_
    exact s_iret rfl dX7_wordOf_122
  · show S0 X _ M 102 [none, none, none, some (.int x11), none, none, none] [] _
    refine s_iload_n (pc := 102) 3 dX7_wordOf_102 rfl rfl ?_
    exact s_iret rfl dX7_wordOf_103
  · show S0 X _ M 13 [some (.ref (gh (xG X) + a0)), some (.int p1), some (.int p2), some (.int s1.1), some (.int s1.2.1), some (.int s1.2.2.1), some (.int s1.2.2.2)] [] _
    refine s_iload (pc := 13) dX7_wordOf_13 rfl ?_
    refine s_ldcS (pc := 15) dX7_wordOf_15 rfl ?_
    refine s_strlen (pc := 17) km_X7_100 (nle rfl) (nle rfl) dX7_wordOf_17 ?_
    refine s_icgt (pc := 20) 119 dX7_wordOf_20 rfl ?_ ?_
    · exact s_drop (hR6 () Le.rf) trivial
    · refine s_iload (pc := 23) dX7_wordOf_23 rfl ?_
      refine s_ldcS (pc := 25) dX7_wordOf_25 rfl ?_
      refine s_strlen (pc := 27) km_X7_100 (nle rfl) (nle rfl) dX7_wordOf_27 ?_
      refine s_join M (fun s14 : Int32 × Int32 × Int32 => M) 113 (fun s14 : Int32 × Int32 × Int32 => [some (.ref (gh (xG X) + a0)), some (.int p1), some (.int p2), some (.int s14.1), some (.int s14.2.1), some (.int s14.2.2), some (.int s1.2.2.2)]) (fun s14 : Int32 × Int32 × Int32 => []) (fun s14 hs15 => ?_) (fun j13 hj16 => ?_)
      · show S0 X _ M 113 [some (.ref (gh (xG X) + a0)), some (.int p1), some (.int p2), some (.int s14.1), some (.int s14.2.1), some (.int s14.2.2), some (.int s1.2.2.2)] [] _
        refine s_iinc (pc := 113) dX7_wordOf_113 rfl (v := s1.2.2.2 + 1) (congrArg (fun z : Int32 => s1.2.2.2 + z) kc_1) (nlt rfl) rfl (L' := [some (.ref (gh (xG X) + a0)), some (.int p1), some (.int p2), some (.int s14.1), some (.int s14.2.1), some (.int s14.2.2), some (.int (s1.2.2.2 + 1))]) rfl ?_
        refine s_bv (fun x17 : Int32 => [some (.ref (gh (xG X) + a0)), some (.int p1), some (.int p2), some (.int s14.1), some (.int s14.2.1), some (.int s14.2.2), some (.int x17)]) (fun x17 => ?_) rfl
        refine s_goto (pc := 116) 13 dX7_wordOf_116 rfl ?_
        exact s_drop (hT4 (s14.1, s14.2.1, s14.2.2, x17) Le.rf) (And.intro rfl (And.intro rfl (And.intro rfl (And.intro rfl (And.intro rfl (And.intro rfl (And.intro rfl trivial)))))))
      · refine s_join M (fun s19 : Unit => M) 89 (fun s19 : Unit => [some (.ref (gh (xG X) + a0)), some (.int p1), some (.int p2), some (.int s1.1), some (.int s1.2.1), some (.int s1.2.2.1), some (.int s1.2.2.2)]) (fun s19 : Unit => []) (fun s19 hs20 => ?_) (fun j18 hj21 => ?_)
        · show S0 X _ M 89 [some (.ref (gh (xG X) + a0)), some (.int p1), some (.int p2), some (.int s1.1), some (.int s1.2.1), some (.int s1.2.2.1), some (.int s1.2.2.2)] [] _
          refine s_iload (pc := 89) dX7_wordOf_89 rfl ?_
          refine s_join M (fun s23 : Unit => M) 104 (fun s23 : Unit => [some (.ref (gh (xG X) + a0)), some (.int p1), some (.int p2), some (.int s1.1), none, none, some (.int s1.2.2.2)]) (fun s23 : Unit => []) (fun s23 hs24 => ?_) (fun j22 hj25 => ?_)
          · show S0 X _ M 104 [some (.ref (gh (xG X) + a0)), some (.int p1), some (.int p2), some (.int s1.1), none, none, some (.int s1.2.2.2)] [] _
            refine s_iinc (pc := 104) dX7_wordOf_104 rfl (v := s1.1 + 1) (congrArg (fun z : Int32 => s1.1 + z) kc_1) (nlt rfl) rfl (L' := [some (.ref (gh (xG X) + a0)), some (.int p1), some (.int p2), some (.int (s1.1 + 1)), none, none, some (.int s1.2.2.2)]) rfl ?_
            refine s_bv (fun x26 : Int32 => [some (.ref (gh (xG X) + a0)), some (.int p1), some (.int p2), some (.int x26), none, none, some (.int s1.2.2.2)]) (fun x26 => ?_) rfl
            refine s_iconst (pc := 107) 0 dX7_wordOf_107 kc_0 ?_
            refine s_istore (pc := 108) dX7_wordOf_108 (nlt rfl) rfl (L' := [some (.ref (gh (xG X) + a0)), some (.int p1), some (.int p2), some (.int x26), some (.int 0), none, some (.int s1.2.2.2)]) rfl ?_
            refine s_iconst (pc := 110) 1 dX7_wordOf_110 kc_1 ?_
            refine s_istore (pc := 111) dX7_wordOf_111 (nlt rfl) rfl (L' := [some (.ref (gh (xG X) + a0)), some (.int p1), some (.int p2), some (.int x26), some (.int 0), some (.int 1), some (.int s1.2.2.2)]) rfl ?_
            exact s_drop (hj16 (x26, 0, 1) Le.rf) (And.intro rfl (And.intro rfl (And.intro rfl (And.intro rfl (And.intro rfl (And.intro rfl (And.intro rfl trivial)))))))
          · refine s_ifeq (pc := 91) 104 dX7_wordOf_91 rfl ?_ ?_
            · exact s_drop (hj25 () Le.rf) (And.intro rfl (And.intro rfl (And.intro rfl (And.intro rfl (And.intro rfl trivial)))))
            · refine s_iload (pc := 94) dX7_wordOf_94 rfl ?_
              refine s_iload_n (pc := 96) 2 dX7_wordOf_96 rfl rfl ?_
              refine s_iload_n (pc := 97) 1 dX7_wordOf_97 rfl rfl ?_
              refine s_isub (pc := 98) dX7_wordOf_98 ?_
              refine s_icne (pc := 99) 104 dX7_wordOf_99 rfl ?_ ?_
              · exact s_drop (hj25 () Le.rf) (And.intro rfl (And.intro rfl (And.intro rfl (And.intro rfl (And.intro rfl trivial)))))
              · exact s_drop (hR8 s1.1 Le.rf) (And.intro rfl trivial)
        · refine s_icge (pc := 30) 89 dX7_wordOf_30 rfl ?_ ?_
          · exact s_drop (hj21 () Le.rf) (And.intro rfl (And.intro rfl (And.intro rfl (And.intro rfl (And.intro rfl (And.intro rfl (And.intro rfl trivial)))))))
          · refine s_ldcS (pc := 33) dX7_wordOf_33 rfl ?_
            refine s_iload (pc := 35) dX7_wordOf_35 rfl ?_
            refine s_grd (fun i27 => ?_)
            refine s_charAt (pc := 37) i27 km_X7_106 (nle rfl) (nle rfl) dX7_wordOf_37 ?_
            refine s_bipush (pc := 40) 32 dX7_wordOf_40 kb_32 ?_
            refine s_iceq (pc := 42) 89 dX7_wordOf_42 rfl ?_ ?_
            · exact s_drop (hj21 () Le.rf) (And.intro rfl (And.intro rfl (And.intro rfl (And.intro rfl (And.intro rfl (And.intro rfl (And.intro rfl trivial)))))))
            · refine s_iload (pc := 45) dX7_wordOf_45 rfl ?_
              refine s_join M (fun s29 : Int32 => M) 81 (fun s29 : Int32 => [some (.ref (gh (xG X) + a0)), some (.int p1), some (.int p2), some (.int s1.1), some (.int s1.2.1), none, some (.int s1.2.2.2)]) (fun s29 : Int32 => [.int s29]) (fun s29 hs30 => ?_) (fun j28 hj31 => ?_)
              · show S0 X _ M 81 [some (.ref (gh (xG X) + a0)), some (.int p1), some (.int p2), some (.int s1.1), some (.int s1.2.1), none, some (.int s1.2.2.2)] [.int s29] _
                refine s_istore (pc := 81) dX7_wordOf_81 (nlt rfl) rfl (L' := [some (.ref (gh (xG X) + a0)), some (.int p1), some (.int p2), some (.int s1.1), some (.int s1.2.1), some (.int s29), some (.int s1.2.2.2)]) rfl ?_
                refine s_iinc (pc := 83) dX7_wordOf_83 rfl (v := s1.2.1 + 1) (congrArg (fun z : Int32 => s1.2.1 + z) kc_1) (nlt rfl) rfl (L' := [some (.ref (gh (xG X) + a0)), some (.int p1), some (.int p2), some (.int s1.1), some (.int (s1.2.1 + 1)), some (.int s29), some (.int s1.2.2.2)]) rfl ?_
                refine s_bv (fun x32 : Int32 => [some (.ref (gh (xG X) + a0)), some (.int p1), some (.int p2), some (.int s1.1), some (.int x32), some (.int s29), some (.int s1.2.2.2)]) (fun x32 => ?_) rfl
                refine s_goto (pc := 86) 113 dX7_wordOf_86 rfl ?_
                exact s_drop (hj16 (s1.1, x32, s29) Le.rf) (And.intro rfl (And.intro rfl (And.intro rfl (And.intro rfl (And.intro rfl (And.intro rfl (And.intro rfl trivial)))))))
              · refine s_join M (fun s34 : Unit => M) 80 (fun s34 : Unit => [some (.ref (gh (xG X) + a0)), some (.int p1), some (.int p2), some (.int s1.1), some (.int s1.2.1), none, some (.int s1.2.2.2)]) (fun s34 : Unit => []) (fun s34 hs35 => ?_) (fun j33 hj36 => ?_)
                · show S0 X _ M 80 [some (.ref (gh (xG X) + a0)), some (.int p1), some (.int p2), some (.int s1.1), some (.int s1.2.1), none, some (.int s1.2.2.2)] [] _
                  refine s_iconst (pc := 80) 0 dX7_wordOf_80 kc_0 ?_
                  exact s_drop (hj31 0 Le.rf) (And.intro rfl (And.intro rfl (And.intro rfl (And.intro rfl (And.intro rfl (And.intro rfl trivial))))))
                · refine s_ifeq (pc := 47) 80 dX7_wordOf_47 rfl ?_ ?_
                  · exact s_drop (hj36 () Le.rf) (And.intro rfl (And.intro rfl (And.intro rfl (And.intro rfl (And.intro rfl (And.intro rfl trivial))))))
                  · refine s_iload (pc := 50) dX7_wordOf_50 rfl ?_
                    refine s_iload_n (pc := 52) 2 dX7_wordOf_52 rfl rfl ?_
                    refine s_iload_n (pc := 53) 1 dX7_wordOf_53 rfl rfl ?_
                    refine s_isub (pc := 54) dX7_wordOf_54 ?_
                    refine s_icge (pc := 55) 80 dX7_wordOf_55 rfl ?_ ?_
                    · exact s_drop (hj36 () Le.rf) (And.intro rfl (And.intro rfl (And.intro rfl (And.intro rfl (And.intro rfl (And.intro rfl trivial))))))
                    · refine s_aload_n (pc := 58) 0 dX7_wordOf_58 rfl rfl ?_
                      refine s_iload_n (pc := 59) 1 dX7_wordOf_59 rfl rfl ?_
                      refine s_iload (pc := 60) dX7_wordOf_60 rfl ?_
                      refine s_iadd (pc := 62) dX7_wordOf_62 ?_
                      refine s_grd (fun o37 => ?_)
                      refine s_bind (fun q38 hq39 => ?_)
                      have hC40 := t_X7_byteAt (l := xl X) (G := xG X) hq39
                      refine s_callV (pc := 63) (As := [.int (p1 + s1.2.1)]) (st := []) (nlt rfl) (q := (RX7, TX7, 10)) rfl rfl o37 cl_X7_byteAt wi_X7_byteAt wl_X7_byteAt km_X7_41 rfl rfl (nle rfl) (nle rfl) (nle rfl) dX7_wordOf_63 hC40 ?_
                      show S0 X _ M 66 [some (.ref (gh (xG X) + a0)), some (.int p1), some (.int p2), some (.int s1.1), some (.int s1.2.1), some (.int s1.2.2.1), some (.int s1.2.2.2)] [.int q38] _
                      refine s_ldcS (pc := 66) dX7_wordOf_66 rfl ?_
                      refine s_iload (pc := 68) dX7_wordOf_68 rfl ?_
                      refine s_charAt (pc := 70) i27 km_X7_106 (nle rfl) (nle rfl) dX7_wordOf_70 ?_
                      refine s_icne (pc := 73) 80 dX7_wordOf_73 rfl ?_ ?_
                      · exact s_drop (hj36 () Le.rf) (And.intro rfl (And.intro rfl (And.intro rfl (And.intro rfl (And.intro rfl (And.intro rfl trivial))))))
                      · refine s_iconst (pc := 76) 1 dX7_wordOf_76 kc_1 ?_
                        refine s_goto (pc := 77) 81 dX7_wordOf_77 rfl ?_
                        exact s_drop (hj31 1 Le.rf) (And.intro rfl (And.intro rfl (And.intro rfl (And.intro rfl (And.intro rfl (And.intro rfl trivial))))))
set_option maxRecDepth 100000 in
set_option maxHeartbeats 8000000 in
noncomputable def f_X11_change (M : Mem) (a0 : Nat) (p1 : Int32) (p2 : Int32) (p3 : Int32) (p4 : Int32) (p5 : Int32) : Option (Mem × Int32) :=
  Option.bind (f_X6_rankOf p1) (fun q1 => if q1 = (-1) then (some (M, (-1))) else (Option.bind (f_X11_isChange p2 p3 p4) (fun q4 => if q4 = 0 then (some (M, (-1))) else (if p5 < 0 then (some (M, (-1))) else (if p5 ≤ 1 then (grd (okO M 11 a0) (Option.bind (mR M a0 4) (fun r8 => Option.bind (mR M a0 0) (fun r9 => grd (okO M 10 r9) (grd (okO M 8 r8) (Option.bind (f_X8_open M r8 (mI M r9 11)) (fun q12 => Option.bind (mR q12 a0 5) (fun r17 => grd (okO q12 1 r17) (Option.bind (f_X1_take q12 r17 q1) (fun q19 => Option.bind (mR q19 a0 5) (fun r24 => grd (okO q19 1 r24) (Option.bind (f_X1_makes q19 r24 p2 p3 p4) (fun q26 => bv (fun (s32 : Unit) => Option.bind (f_X6_numberOf q26.2) (fun q35 => some (q26.1, q35))) (fun j31 => if p5 = 0 then (j31 ()) else (if q26.2 = (-1) then (j31 ()) else (Option.bind (mR q26.1 a0 5) (fun r38 => grd (okO q26.1 1 r38) (some (q26.1, mI q26.1 r38 7))))))))))))))))))) else (some (M, (-1))))))))
abbrev Y_X11_change : Sta := (RX11, "change", cX11_change, 8, (some .int), 6)
set_option maxRecDepth 100000 in
set_option maxHeartbeats 8000000 in
theorem t_X11_change {l : Launch} {G : Gh} {M : Mem} {a0 : Nat} {p1 : Int32} {p2 : Int32} {p3 : Int32} {p4 : Int32} {p5 : Int32} {q : Mem × Int32} (h : f_X11_change M a0 p1 p2 p3 p4 p5 = some q) : Ctr l G yX11_change Y_X11_change M [.ref (gh G + a0), .int p1, .int p2, .int p3, .int p4, .int p5] q.1 (some (.int q.2)) := by
  refine Ctr.of (Y := Y_X11_change) (L := [some (.ref (gh G + a0)), some (.int p1), some (.int p2), some (.int p3), some (.int p4), some (.int p5), none, none]) (t := Option.bind (f_X11_change M a0 p1 p2 p3 p4 p5) (fun q => some (q.1, some (.int q.2)))) (by decide) rfl rfl (nle rfl) (Lof_in 2 _ rfl) (fun X hG hl => ?_) (by rw [h]; rfl)
  subst hG
  subst hl
  unfold f_X11_change
  refine s_iload_n (pc := 0) 1 dX11_change_0 rfl rfl ?_
  refine s_bind (fun q1 hq2 => ?_)
  have hC3 := t_X6_rankOf (l := xl X) (G := xG X) (M := M) hq2
  refine s_callS (pc := 1) (As := [.int p1]) (st := []) cl_X6_rankOf wt_X6_rankOf km_X11_111 rfl rfl (nle rfl) (nle rfl) (nle rfl) dX11_change_1 hC3 ?_
  show S0 X _ M 4 [some (.ref (gh (xG X) + a0)), some (.int p1), some (.int p2), some (.int p3), some (.int p4), some (.int p5), none, none] [.int q1] _
  refine s_istore (pc := 4) dX11_change_4 (nlt rfl) rfl (L' := [some (.ref (gh (xG X) + a0)), some (.int p1), some (.int p2), some (.int p3), some (.int p4), some (.int p5), some (.int q1), none]) rfl ?_
  refine s_iload (pc := 6) dX11_change_6 rfl ?_
  refine s_iconst (pc := 8) (-1) dX11_change_8 kc_m1 ?_
  refine s_iceq (pc := 9) 33 dX11_change_9 rfl ?_ ?_
  · refine s_iconst (pc := 33) (-1) dX11_change_33 kc_m1 ?_
    exact s_iret rfl dX11_change_34
  · refine s_iload_n (pc := 12) 2 dX11_change_12 rfl rfl ?_
    refine s_iload_n (pc := 13) 3 dX11_change_13 rfl rfl ?_
    refine s_iload (pc := 14) dX11_change_14 rfl ?_
    refine s_bind (fun q4 hq5 => ?_)
    have hC6 := t_X11_isChange (l := xl X) (G := xG X) (M := M) hq5
    refine s_callS (pc := 16) (As := [.int p2, .int p3, .int p4]) (st := []) cl_X11_isChange wt_X11_isChange km_X11_230 rfl rfl (nle rfl) (nle rfl) (nle rfl) dX11_change_16 hC6 ?_
    show S0 X _ M 19 [some (.ref (gh (xG X) + a0)), some (.int p1), some (.int p2), some (.int p3), some (.int p4), some (.int p5), some (.int q1), none] [.int q4] _
    refine s_ifeq (pc := 19) 33 dX11_change_19 rfl ?_ ?_
    · refine s_iconst (pc := 33) (-1) dX11_change_33 kc_m1 ?_
      exact s_iret rfl dX11_change_34
    · refine s_iload (pc := 22) dX11_change_22 rfl ?_
      refine s_iflt (pc := 24) 33 dX11_change_24 rfl ?_ ?_
      · refine s_iconst (pc := 33) (-1) dX11_change_33 kc_m1 ?_
        exact s_iret rfl dX11_change_34
      · refine s_iload (pc := 27) dX11_change_27 rfl ?_
        refine s_iconst (pc := 29) 1 dX11_change_29 kc_1 ?_
        refine s_icle (pc := 30) 35 dX11_change_30 rfl ?_ ?_
        · refine s_aload_n (pc := 35) 0 dX11_change_35 rfl rfl ?_
          refine s_grd (fun o7 => ?_)
          refine s_geto (pc := 36) F_11 4 rfl o7 dX11_change_36 kf_X11_39 ?_
          refine s_rvB (fun r8 => ?_)
          refine s_aload_n (pc := 39) 0 dX11_change_39 rfl rfl ?_
          refine s_geto (pc := 40) F_11 0 rfl o7 dX11_change_40 kf_X11_10 ?_
          refine s_rvB (fun r9 => ?_)
          refine s_grd (fun o10 => ?_)
          refine s_getiN (pc := 43) F_10 11 rfl o10 dX11_change_43 (List.mem_of_getElem? (i := 14) rfl) ?_
          refine s_grd (fun o11 => ?_)
          refine s_bind (fun q12 hq13 => ?_)
          have hC14 := t_X8_open (l := xl X) (G := xG X) hq13
          refine s_callV (pc := 46) (As := [.int (mI M r9 11)]) (st := []) (nlt rfl) (q := (RX8, TX8, 7)) rfl rfl o11 cl_X8_open wi_X8_open wl_X8_open km_X11_233 rfl rfl (nle rfl) (nle rfl) (nle rfl) dX11_change_46 hC14 ?_
          have h15 := hC14.1 X
          have o16 := h15.ok o7
          show S0 X _ q12 49 [some (.ref (gh (xG X) + a0)), some (.int p1), some (.int p2), some (.int p3), some (.int p4), some (.int p5), some (.int q1), none] [] _
          refine s_aload_n (pc := 49) 0 dX11_change_49 rfl rfl ?_
          refine s_geto (pc := 50) F_11 5 rfl o16 dX11_change_50 kf_X11_48 ?_
          refine s_rvB (fun r17 => ?_)
          refine s_iload (pc := 53) dX11_change_53 rfl ?_
          refine s_grd (fun o18 => ?_)
          refine s_bind (fun q19 hq20 => ?_)
          have hC21 := t_X1_take (l := xl X) (G := xG X) hq20
          refine s_callV (pc := 55) (As := [.int q1]) (st := []) (nlt rfl) (q := (RX1, TX1, 8)) rfl rfl o18 cl_X1_take wi_X1_take wl_X1_take km_X11_236 rfl rfl (nle rfl) (nle rfl) (nle rfl) dX11_change_55 hC21 ?_
          have h22 := hC21.1 X
          have o23 := h22.ok o16
          show S0 X _ q19 58 [some (.ref (gh (xG X) + a0)), some (.int p1), some (.int p2), some (.int p3), some (.int p4), some (.int p5), some (.int q1), none] [] _
          refine s_aload_n (pc := 58) 0 dX11_change_58 rfl rfl ?_
          refine s_geto (pc := 59) F_11 5 rfl o23 dX11_change_59 kf_X11_48 ?_
          refine s_rvB (fun r24 => ?_)
          refine s_iload_n (pc := 62) 2 dX11_change_62 rfl rfl ?_
          refine s_iload_n (pc := 63) 3 dX11_change_63 rfl rfl ?_
          refine s_iload (pc := 64) dX11_change_64 rfl ?_
          refine s_grd (fun o25 => ?_)
          refine s_bind (fun q26 hq27 => ?_)
          have hC28 := t_X1_makes (l := xl X) (G := xG X) hq27
          refine s_callV (pc := 66) (As := [.int p2, .int p3, .int p4]) (st := []) (nlt rfl) (q := (RX1, TX1, 8)) rfl rfl o25 cl_X1_makes wi_X1_makes wl_X1_makes km_X11_239 rfl rfl (nle rfl) (nle rfl) (nle rfl) dX11_change_66 hC28 ?_
          have h29 := hC28.1 X
          have o30 := h29.ok o23
          show S0 X _ q26.1 69 [some (.ref (gh (xG X) + a0)), some (.int p1), some (.int p2), some (.int p3), some (.int p4), some (.int p5), some (.int q1), none] [.int q26.2] _
          refine s_istore (pc := 69) dX11_change_69 (nlt rfl) rfl (L' := [some (.ref (gh (xG X) + a0)), some (.int p1), some (.int p2), some (.int p3), some (.int p4), some (.int p5), some (.int q1), some (.int q26.2)]) rfl ?_
          refine s_iload (pc := 71) dX11_change_71 rfl ?_
          refine s_join q26.1 (fun s32 : Unit => q26.1) 82 (fun s32 : Unit => [none, none, none, none, none, none, none, some (.int q26.2)]) (fun s32 : Unit => []) (fun s32 hs33 => ?_) (fun j31 hj34 => ?_)
          · show S0 X _ q26.1 82 [none, none, none, none, none, none, none, some (.int q26.2)] [] _
            refine s_iload (pc := 82) dX11_change_82 rfl ?_
            refine s_bind (fun q35 hq36 => ?_)
            have hC37 := t_X6_numberOf (l := xl X) (G := xG X) (M := q26.1) hq36
            refine s_callS (pc := 84) (As := [.int q26.2]) (st := []) cl_X6_numberOf wt_X6_numberOf km_X11_146 rfl rfl (nle rfl) (nle rfl) (nle rfl) dX11_change_84 hC37 ?_
            show S0 X _ q26.1 87 [none, none, none, none, none, none, none, some (.int q26.2)] [.int q35] _
            refine s_goto (pc := 87) 97 dX11_change_87 rfl ?_
            exact s_iret rfl dX11_change_97
          · refine s_ifeq (pc := 73) 82 dX11_change_73 rfl ?_ ?_
            · exact s_drop (hj34 () Le.rf) (And.intro rfl trivial)
            · refine s_iload (pc := 76) dX11_change_76 rfl ?_
              refine s_iconst (pc := 78) (-1) dX11_change_78 kc_m1 ?_
              refine s_icne (pc := 79) 90 dX11_change_79 rfl ?_ ?_
              · refine s_aload_n (pc := 90) 0 dX11_change_90 rfl rfl ?_
                refine s_geto (pc := 91) F_11 5 rfl o30 dX11_change_91 kf_X11_48 ?_
                refine s_rvB (fun r38 => ?_)
                refine s_grd (fun o39 => ?_)
                refine s_geti (pc := 94) F_1 7 rfl o39 dX11_change_94 kf_X11_242 ?_
                exact s_iret rfl dX11_change_97
              · exact s_drop (hj34 () Le.rf) (And.intro rfl trivial)
        · refine s_iconst (pc := 33) (-1) dX11_change_33 kc_m1 ?_
          exact s_iret rfl dX11_change_34
set_option maxRecDepth 100000 in
set_option maxHeartbeats 8000000 in
noncomputable def f_X11_giveBirth (M : Mem) (a0 : Nat) (p1 : Int32) (p2 : Int32) (p3 : Int32) (p4 : Int32) : Option (Mem × Int32) :=
  Option.bind (f_X11_isChange p2 p3 p4) (fun q1 => if q1 = 0 then (some (M, (-1))) else (grd (okO M 11 a0) (Option.bind (mR M a0 0) (fun r5 => grd (okO M 10 r5) (Option.bind (f_X10_hasHouse M r5 p1) (fun q7 => if q7 = 0 then (some (M, (-2))) else (Option.bind (mR M a0 0) (fun r10 => grd (okO M 10 r10) (Option.bind (mR M a0 0) (fun r12 => grd (okO M 10 r12) (Option.bind (mR M r12 4) (fun r14 => grd (okO M 14 r14) (grd (vp_in p1 (mL M r14)) (if (mI M r14 p1.toNatClampNeg) ≤ (mI M r10 11) then (Option.bind (mR M a0 4) (fun r17 => Option.bind (mR M a0 0) (fun r18 => grd (okO M 10 r18) (grd (okO M 8 r17) (Option.bind (f_X8_open M r17 (mI M r18 11)) (fun q21 => Option.bind (mR q21 a0 5) (fun r26 => Option.bind (mR q21 a0 0) (fun r27 => grd (okO q21 10 r27) (Option.bind (mR q21 r27 5) (fun r29 => grd (okO q21 14 r29) (grd (vp_in p1 (mL q21 r29)) (grd (okO q21 1 r26) (Option.bind (f_X1_take q21 r26 (mI q21 r29 p1.toNatClampNeg)) (fun q33 => Option.bind (mR q33 a0 5) (fun r38 => grd (okO q33 1 r38) (Option.bind (f_X1_makes q33 r38 p2 p3 p4) (fun q40 => if q40.2 = (-1) then (some (q40.1, (-3))) else (Option.bind (mR q40.1 a0 0) (fun r45 => Option.bind (mR q40.1 a0 0) (fun r46 => grd (okO q40.1 10 r46) (grd (okO q40.1 10 r45) (Option.bind (f_X10_add q40.1 r45 p1 (mI q40.1 r46 11) q40.2) (fun q49 => some (q49.1, q49.2)))))))))))))))))))))))) else (some (M, (-3)))))))))))))))))
abbrev Y_X11_giveBirth : Sta := (RX11, "giveBirth", cX11_giveBirth, 6, (some .int), 6)
set_option maxRecDepth 100000 in
set_option maxHeartbeats 8000000 in
theorem t_X11_giveBirth {l : Launch} {G : Gh} {M : Mem} {a0 : Nat} {p1 : Int32} {p2 : Int32} {p3 : Int32} {p4 : Int32} {q : Mem × Int32} (h : f_X11_giveBirth M a0 p1 p2 p3 p4 = some q) : Ctr l G yX11_giveBirth Y_X11_giveBirth M [.ref (gh G + a0), .int p1, .int p2, .int p3, .int p4] q.1 (some (.int q.2)) := by
  refine Ctr.of (Y := Y_X11_giveBirth) (L := [some (.ref (gh G + a0)), some (.int p1), some (.int p2), some (.int p3), some (.int p4), none]) (t := Option.bind (f_X11_giveBirth M a0 p1 p2 p3 p4) (fun q => some (q.1, some (.int q.2)))) (by decide) rfl rfl (nle rfl) (Lof_in 1 _ rfl) (fun X hG hl => ?_) (by rw [h]; rfl)
  subst hG
  subst hl
  unfold f_X11_giveBirth
  refine s_iload_n (pc := 0) 2 dX11_giveBirth_0 rfl rfl ?_
  refine s_iload_n (pc := 1) 3 dX11_giveBirth_1 rfl rfl ?_
  refine s_iload (pc := 2) dX11_giveBirth_2 rfl ?_
  refine s_bind (fun q1 hq2 => ?_)
  have hC3 := t_X11_isChange (l := xl X) (G := xG X) (M := M) hq2
  refine s_callS (pc := 4) (As := [.int p2, .int p3, .int p4]) (st := []) cl_X11_isChange wt_X11_isChange km_X11_230 rfl rfl (nle rfl) (nle rfl) (nle rfl) dX11_giveBirth_4 hC3 ?_
  show S0 X _ M 7 [some (.ref (gh (xG X) + a0)), some (.int p1), some (.int p2), some (.int p3), some (.int p4), none] [.int q1] _
  refine s_ifne (pc := 7) 12 dX11_giveBirth_7 rfl ?_ ?_
  · refine s_aload_n (pc := 12) 0 dX11_giveBirth_12 rfl rfl ?_
    refine s_grd (fun o4 => ?_)
    refine s_geto (pc := 13) F_11 0 rfl o4 dX11_giveBirth_13 kf_X11_10 ?_
    refine s_rvB (fun r5 => ?_)
    refine s_iload_n (pc := 16) 1 dX11_giveBirth_16 rfl rfl ?_
    refine s_grd (fun o6 => ?_)
    refine s_bind (fun q7 hq8 => ?_)
    have hC9 := t_X10_hasHouse (l := xl X) (G := xG X) hq8
    refine s_callV (pc := 17) (As := [.int p1]) (st := []) (nlt rfl) (q := (RX10, TX10, 15)) rfl rfl o6 cl_X10_hasHouse wi_X10_hasHouse wl_X10_hasHouse km_X11_119 rfl rfl (nle rfl) (nle rfl) (nle rfl) dX11_giveBirth_17 hC9 ?_
    show S0 X _ M 20 [some (.ref (gh (xG X) + a0)), some (.int p1), some (.int p2), some (.int p3), some (.int p4), none] [.int q7] _
    refine s_ifne (pc := 20) 26 dX11_giveBirth_20 rfl ?_ ?_
    · refine s_aload_n (pc := 26) 0 dX11_giveBirth_26 rfl rfl ?_
      refine s_geto (pc := 27) F_11 0 rfl o4 dX11_giveBirth_27 kf_X11_10 ?_
      refine s_rvB (fun r10 => ?_)
      refine s_grd (fun o11 => ?_)
      refine s_getiN (pc := 30) F_10 11 rfl o11 dX11_giveBirth_30 (List.mem_of_getElem? (i := 14) rfl) ?_
      refine s_aload_n (pc := 33) 0 dX11_giveBirth_33 rfl rfl ?_
      refine s_geto (pc := 34) F_11 0 rfl o4 dX11_giveBirth_34 kf_X11_10 ?_
      refine s_rvB (fun r12 => ?_)
      refine s_grd (fun o13 => ?_)
      refine s_getoN (pc := 37) F_10 4 rfl o13 dX11_giveBirth_37 (List.mem_of_getElem? (i := 5) rfl) ?_
      refine s_rvB (fun r14 => ?_)
      refine s_iload_n (pc := 40) 1 dX11_giveBirth_40 rfl rfl ?_
      refine s_grd (fun o15 => ?_)
      refine s_grd (fun i16 => ?_)
      refine s_iald (pc := 41) o15 i16 dX11_giveBirth_41 ?_
      refine s_icge (pc := 42) 48 dX11_giveBirth_42 rfl ?_ ?_
      · refine s_aload_n (pc := 48) 0 dX11_giveBirth_48 rfl rfl ?_
        refine s_geto (pc := 49) F_11 4 rfl o4 dX11_giveBirth_49 kf_X11_39 ?_
        refine s_rvB (fun r17 => ?_)
        refine s_aload_n (pc := 52) 0 dX11_giveBirth_52 rfl rfl ?_
        refine s_geto (pc := 53) F_11 0 rfl o4 dX11_giveBirth_53 kf_X11_10 ?_
        refine s_rvB (fun r18 => ?_)
        refine s_grd (fun o19 => ?_)
        refine s_getiN (pc := 56) F_10 11 rfl o19 dX11_giveBirth_56 (List.mem_of_getElem? (i := 14) rfl) ?_
        refine s_grd (fun o20 => ?_)
        refine s_bind (fun q21 hq22 => ?_)
        have hC23 := t_X8_open (l := xl X) (G := xG X) hq22
        refine s_callV (pc := 59) (As := [.int (mI M r18 11)]) (st := []) (nlt rfl) (q := (RX8, TX8, 7)) rfl rfl o20 cl_X8_open wi_X8_open wl_X8_open km_X11_233 rfl rfl (nle rfl) (nle rfl) (nle rfl) dX11_giveBirth_59 hC23 ?_
        have h24 := hC23.1 X
        have o25 := h24.ok o4
        show S0 X _ q21 62 [some (.ref (gh (xG X) + a0)), some (.int p1), some (.int p2), some (.int p3), some (.int p4), none] [] _
        refine s_aload_n (pc := 62) 0 dX11_giveBirth_62 rfl rfl ?_
        refine s_geto (pc := 63) F_11 5 rfl o25 dX11_giveBirth_63 kf_X11_48 ?_
        refine s_rvB (fun r26 => ?_)
        refine s_aload_n (pc := 66) 0 dX11_giveBirth_66 rfl rfl ?_
        refine s_geto (pc := 67) F_11 0 rfl o25 dX11_giveBirth_67 kf_X11_10 ?_
        refine s_rvB (fun r27 => ?_)
        refine s_grd (fun o28 => ?_)
        refine s_getoN (pc := 70) F_10 5 rfl o28 dX11_giveBirth_70 (List.mem_of_getElem? (i := 7) rfl) ?_
        refine s_rvB (fun r29 => ?_)
        refine s_iload_n (pc := 73) 1 dX11_giveBirth_73 rfl rfl ?_
        refine s_grd (fun o30 => ?_)
        refine s_grd (fun i31 => ?_)
        refine s_iald (pc := 74) o30 i31 dX11_giveBirth_74 ?_
        refine s_grd (fun o32 => ?_)
        refine s_bind (fun q33 hq34 => ?_)
        have hC35 := t_X1_take (l := xl X) (G := xG X) hq34
        refine s_callV (pc := 75) (As := [.int (mI q21 r29 p1.toNatClampNeg)]) (st := []) (nlt rfl) (q := (RX1, TX1, 8)) rfl rfl o32 cl_X1_take wi_X1_take wl_X1_take km_X11_236 rfl rfl (nle rfl) (nle rfl) (nle rfl) dX11_giveBirth_75 hC35 ?_
        have h36 := hC35.1 X
        have o37 := h36.ok o25
        show S0 X _ q33 78 [some (.ref (gh (xG X) + a0)), some (.int p1), some (.int p2), some (.int p3), some (.int p4), none] [] _
        refine s_aload_n (pc := 78) 0 dX11_giveBirth_78 rfl rfl ?_
        refine s_geto (pc := 79) F_11 5 rfl o37 dX11_giveBirth_79 kf_X11_48 ?_
        refine s_rvB (fun r38 => ?_)
        refine s_iload_n (pc := 82) 2 dX11_giveBirth_82 rfl rfl ?_
        refine s_iload_n (pc := 83) 3 dX11_giveBirth_83 rfl rfl ?_
        refine s_iload (pc := 84) dX11_giveBirth_84 rfl ?_
        refine s_grd (fun o39 => ?_)
        refine s_bind (fun q40 hq41 => ?_)
        have hC42 := t_X1_makes (l := xl X) (G := xG X) hq41
        refine s_callV (pc := 86) (As := [.int p2, .int p3, .int p4]) (st := []) (nlt rfl) (q := (RX1, TX1, 8)) rfl rfl o39 cl_X1_makes wi_X1_makes wl_X1_makes km_X11_239 rfl rfl (nle rfl) (nle rfl) (nle rfl) dX11_giveBirth_86 hC42 ?_
        have h43 := hC42.1 X
        have o44 := h43.ok o37
        show S0 X _ q40.1 89 [some (.ref (gh (xG X) + a0)), some (.int p1), some (.int p2), some (.int p3), some (.int p4), none] [.int q40.2] _
        refine s_istore (pc := 89) dX11_giveBirth_89 (nlt rfl) rfl (L' := [some (.ref (gh (xG X) + a0)), some (.int p1), some (.int p2), some (.int p3), some (.int p4), some (.int q40.2)]) rfl ?_
        refine s_iload (pc := 91) dX11_giveBirth_91 rfl ?_
        refine s_iconst (pc := 93) (-1) dX11_giveBirth_93 kc_m1 ?_
        refine s_icne (pc := 94) 102 dX11_giveBirth_94 rfl ?_ ?_
        · refine s_aload_n (pc := 102) 0 dX11_giveBirth_102 rfl rfl ?_
          refine s_geto (pc := 103) F_11 0 rfl o44 dX11_giveBirth_103 kf_X11_10 ?_
          refine s_rvB (fun r45 => ?_)
          refine s_iload_n (pc := 106) 1 dX11_giveBirth_106 rfl rfl ?_
          refine s_aload_n (pc := 107) 0 dX11_giveBirth_107 rfl rfl ?_
          refine s_geto (pc := 108) F_11 0 rfl o44 dX11_giveBirth_108 kf_X11_10 ?_
          refine s_rvB (fun r46 => ?_)
          refine s_grd (fun o47 => ?_)
          refine s_getiN (pc := 111) F_10 11 rfl o47 dX11_giveBirth_111 (List.mem_of_getElem? (i := 14) rfl) ?_
          refine s_iload (pc := 114) dX11_giveBirth_114 rfl ?_
          refine s_grd (fun o48 => ?_)
          refine s_bind (fun q49 hq50 => ?_)
          have hC51 := t_X10_add (l := xl X) (G := xG X) hq50
          refine s_callV (pc := 116) (As := [.int p1, .int (mI q40.1 r46 11), .int q40.2]) (st := []) (nlt rfl) (q := (RX10, TX10, 15)) rfl rfl o48 cl_X10_add wi_X10_add wl_X10_add km_X11_125 rfl rfl (nle rfl) (nle rfl) (nle rfl) dX11_giveBirth_116 hC51 ?_
          have h52 := hC51.1 X
          have o53 := h52.ok o44
          show S0 X _ q49.1 119 [some (.ref (gh (xG X) + a0)), some (.int p1), some (.int p2), some (.int p3), some (.int p4), some (.int q40.2)] [.int q49.2] _
          exact s_iret rfl dX11_giveBirth_119
        · refine s_bipush (pc := 97) (-3) dX11_giveBirth_97 kb_m3 ?_
          refine s_goto (pc := 99) 119 dX11_giveBirth_99 rfl ?_
          exact s_iret rfl dX11_giveBirth_119
      · refine s_bipush (pc := 45) (-3) dX11_giveBirth_45 kb_m3 ?_
        exact s_iret rfl dX11_giveBirth_47
    · refine s_bipush (pc := 23) (-2) dX11_giveBirth_23 kb_m2 ?_
      exact s_iret rfl dX11_giveBirth_25
  · refine s_iconst (pc := 10) (-1) dX11_giveBirth_10 kc_m1 ?_
    exact s_iret rfl dX11_giveBirth_11
set_option maxRecDepth 100000 in
set_option maxHeartbeats 8000000 in
noncomputable def f_X1_listAll (M : Mem) (a0 : Nat) (p1 : Int32) : Option Mem :=
  grd (okO M 1 a0) (Option.bind (mR M a0 2) (fun r2 => grd (okO M 6 r2) (Option.bind (f_X6_load M r2 p1) (fun q4 => bv (wI q4 a0 5 0) (fun M9 => bv (wI M9 a0 6 0) (fun M13 => Option.bind (loopO (σ := Mem × Int32) (ρ := Mem) (fun s17 => if 4 < s17.2 then (some (.inr s17.1)) else (bv (fun (s27 : Int32) => Option.bind (loopO (σ := Mem × Int32) (ρ := Mem) (fun s30 => Option.bind (mR s30.1 a0 2) (fun r39 => grd (okO s30.1 6 r39) (if (((mI s30.1 r39 2) + 1) * s27) ≤ s30.2 then (some (.inr s30.1)) else (grd (¬ s27 = 0) (grd (¬ s27 = 0) (Option.bind (f_X1_makes s30.1 a0 s17.2 (s30.2 / s27) (ir s30.2 s27)) (fun q43 => bv (fun (s49 : Mem) => bv (s30.2 + 1 : Int32) (fun x53 => some (.inl (s49, x53)))) (fun j48 => if q43.2 = (-1) then (j48 q43.1) else (if 45 ≤ (mI q43.1 a0 5) then (j48 q43.1) else (Option.bind (mR q43.1 a0 3) (fun r54 => grd (okO q43.1 14 r54) (grd (vp_in (mI q43.1 a0 5) (mL q43.1 r54)) (bv (wI q43.1 r54 (mI q43.1 a0 5).toNatClampNeg q43.2) (fun M57 => Option.bind (mR M57 a0 4) (fun r61 => grd (okO M57 14 r61) (grd (vp_in (mI M57 a0 5) (mL M57 r61)) (bv (wI M57 r61 (mI M57 a0 5).toNatClampNeg (mI M57 a0 7)) (fun M64 => bv (wI M64 a0 6 ((mI M64 a0 6) + (mI M64 a0 7))) (fun M68 => bv (wI M68 a0 5 ((mI M68 a0 5) + 1)) (fun M72 => j48 M72)))))))))))))))))))) (s17.1, 0)) (fun (x37 : Mem) => bv (s17.2 + 1 : Int32) (fun x77 => some (.inl (x37, x77))))) (fun j26 => if s17.2 = 1 then (j26 6) else (j26 1)))) (M13, 0)) (fun (x24 : Mem) => some x24)))))))
abbrev Y_X1_listAll : Sta := (RX1, "listAll", cX1_listAll, 6, none, 6)
set_option maxRecDepth 100000 in
set_option maxHeartbeats 8000000 in
theorem t_X1_listAll {l : Launch} {G : Gh} {M : Mem} {a0 : Nat} {p1 : Int32} {q : Mem} (h : f_X1_listAll M a0 p1 = some q) : Ctr l G yX1_listAll Y_X1_listAll M [.ref (gh G + a0), .int p1] q (none) := by
  refine Ctr.of (Y := Y_X1_listAll) (L := [some (.ref (gh G + a0)), some (.int p1), none, none, none, none]) (t := Option.bind (f_X1_listAll M a0 p1) (fun q => some (q, (none : Option Value)))) (by decide) rfl rfl (nle rfl) (Lof_in 4 _ rfl) (fun X hG hl => ?_) (by rw [h]; rfl)
  subst hG
  subst hl
  unfold f_X1_listAll
  refine s_aload_n (pc := 0) 0 dX1_listAll_0 rfl rfl ?_
  refine s_grd (fun o1 => ?_)
  refine s_geto (pc := 1) F_1 2 rfl o1 dX1_listAll_1 kf_X1_12 ?_
  refine s_rvB (fun r2 => ?_)
  refine s_iload_n (pc := 4) 1 dX1_listAll_4 rfl rfl ?_
  refine s_grd (fun o3 => ?_)
  refine s_bind (fun q4 hq5 => ?_)
  have hC6 := t_X6_load (l := xl X) (G := xG X) hq5
  refine s_callV (pc := 5) (As := [.int p1]) (st := []) (nlt rfl) (q := (RX6, TX6, 4)) rfl rfl o3 cl_X6_load wi_X6_load wl_X6_load km_X1_33 rfl rfl (nle rfl) (nle rfl) (nle rfl) dX1_listAll_5 hC6 ?_
  have h7 := hC6.1 X
  have o8 := h7.ok o1
  show S0 X _ q4 8 [some (.ref (gh (xG X) + a0)), some (.int p1), none, none, none, none] [] _
  refine s_aload_n (pc := 8) 0 dX1_listAll_8 rfl rfl ?_
  refine s_iconst (pc := 9) 0 dX1_listAll_9 kc_0 ?_
  refine s_puti (pc := 10) F_1 5 rfl o8 rfl rfl rfl dX1_listAll_10 kf_X1_82 (fun M9 hM10 => ?_)
  have h11 := le_wI hM10
  have o12 := h11.ok o8
  refine s_aload_n (pc := 13) 0 dX1_listAll_13 rfl rfl ?_
  refine s_iconst (pc := 14) 0 dX1_listAll_14 kc_0 ?_
  refine s_puti (pc := 15) F_1 6 rfl o12 rfl rfl rfl dX1_listAll_15 kf_X1_85 (fun M13 hM14 => ?_)
  have h15 := le_wI hM14
  have o16 := h15.ok o12
  refine s_iconst (pc := 18) 0 dX1_listAll_18 kc_0 ?_
  refine s_istore_n (pc := 19) 2 dX1_listAll_19 rfl (nlt rfl) rfl (L' := [some (.ref (gh (xG X) + a0)), some (.int p1), some (.int 0), none, none, none]) rfl ?_
  refine s_drop (L' := [some (.ref (gh (xG X) + a0)), none, some (.int 0), none, none, none]) ?_ (And.intro rfl (And.intro rfl trivial))
  refine s_loop1 M13 (fun s17 : Mem × Int32 => s17.1) (fun s17 : Mem × Int32 => [some (.ref (gh (xG X) + a0)), none, some (.int s17.2), none, none, none]) (fun x24 : Mem => x24) 145 (fun x24 : Mem => [none, none, none, none, none, none]) (fun x24 hx25 => ?_) (fun T19 R21 hT20 hR22 s17 hs18 => ?_) (M13, 0) Le.rf
  · show S0 X _ x24 145 [none, none, none, none, none, none] [] _
    exact s_vret rfl dX1_listAll_145
  · show S0 X _ s17.1 20 [some (.ref (gh (xG X) + a0)), none, some (.int s17.2), none, none, none] [] _
    have o23 := hs18.ok o16
    refine s_iload_n (pc := 20) 2 dX1_listAll_20 rfl rfl ?_
    refine s_iconst (pc := 21) 4 dX1_listAll_21 kc_4 ?_
    refine s_icgt (pc := 22) 145 dX1_listAll_22 rfl ?_ ?_
    · exact s_drop (hR22 s17.1 hs18) trivial
    · refine s_iload_n (pc := 25) 2 dX1_listAll_25 rfl rfl ?_
      refine s_iconst (pc := 26) 1 dX1_listAll_26 kc_1 ?_
      refine s_join s17.1 (fun s27 : Int32 => s17.1) 36 (fun s27 : Int32 => [some (.ref (gh (xG X) + a0)), none, some (.int s17.2), none, none, none]) (fun s27 : Int32 => [.int s27]) (fun s27 hs28 => ?_) (fun j26 hj29 => ?_)
      · show S0 X _ s17.1 36 [some (.ref (gh (xG X) + a0)), none, some (.int s17.2), none, none, none] [.int s27] _
        refine s_istore_n (pc := 36) 3 dX1_listAll_36 rfl (nlt rfl) rfl (L' := [some (.ref (gh (xG X) + a0)), none, some (.int s17.2), some (.int s27), none, none]) rfl ?_
        refine s_iconst (pc := 37) 0 dX1_listAll_37 kc_0 ?_
        refine s_istore (pc := 38) dX1_listAll_38 (nlt rfl) rfl (L' := [some (.ref (gh (xG X) + a0)), none, some (.int s17.2), some (.int s27), some (.int 0), none]) rfl ?_
        refine s_drop (L' := [some (.ref (gh (xG X) + a0)), none, some (.int s17.2), some (.int s27), some (.int 0), none]) ?_ (And.intro rfl (And.intro rfl (And.intro rfl (And.intro rfl trivial))))
        refine s_loop1 s17.1 (fun s30 : Mem × Int32 => s30.1) (fun s30 : Mem × Int32 => [some (.ref (gh (xG X) + a0)), none, some (.int s17.2), some (.int s27), some (.int s30.2), none]) (fun x37 : Mem => x37) 139 (fun x37 : Mem => [some (.ref (gh (xG X) + a0)), none, some (.int s17.2), none, none, none]) (fun x37 hx38 => ?_) (fun T32 R34 hT33 hR35 s30 hs31 => ?_) (s17.1, 0) Le.rf
        · show S0 X _ x37 139 [some (.ref (gh (xG X) + a0)), none, some (.int s17.2), none, none, none] [] _
          have o76 := hx38.ok o23
          refine s_iinc (pc := 139) dX1_listAll_139 rfl (v := s17.2 + 1) (congrArg (fun z : Int32 => s17.2 + z) kc_1) (nlt rfl) rfl (L' := [some (.ref (gh (xG X) + a0)), none, some (.int (s17.2 + 1)), none, none, none]) rfl ?_
          refine s_bv (fun x77 : Int32 => [some (.ref (gh (xG X) + a0)), none, some (.int x77), none, none, none]) (fun x77 => ?_) rfl
          refine s_goto (pc := 142) 20 dX1_listAll_142 rfl ?_
          exact s_drop (hT20 (x37, x77) (hs18.tr hx38)) (And.intro rfl (And.intro rfl trivial))
        · show S0 X _ s30.1 40 [some (.ref (gh (xG X) + a0)), none, some (.int s17.2), some (.int s27), some (.int s30.2), none] [] _
          have o36 := hs31.ok o23
          refine s_iload (pc := 40) dX1_listAll_40 rfl ?_
          refine s_aload_n (pc := 42) 0 dX1_listAll_42 rfl rfl ?_
          refine s_geto (pc := 43) F_1 2 rfl o36 dX1_listAll_43 kf_X1_12 ?_
          refine s_rvB (fun r39 => ?_)
          refine s_grd (fun o40 => ?_)
          refine s_geti (pc := 46) F_6 2 rfl o40 dX1_listAll_46 kf_X1_66 ?_
          refine s_iconst (pc := 49) 1 dX1_listAll_49 kc_1 ?_
          refine s_iadd (pc := 50) dX1_listAll_50 ?_
          refine s_iload_n (pc := 51) 3 dX1_listAll_51 rfl rfl ?_
          refine s_imul (pc := 52) dX1_listAll_52 ?_
          refine s_icge (pc := 53) 139 dX1_listAll_53 rfl ?_ ?_
          · exact s_drop (hR35 s30.1 hs31) (And.intro rfl (And.intro rfl trivial))
          · refine s_aload_n (pc := 56) 0 dX1_listAll_56 rfl rfl ?_
            refine s_iload_n (pc := 57) 2 dX1_listAll_57 rfl rfl ?_
            refine s_iload (pc := 58) dX1_listAll_58 rfl ?_
            refine s_iload_n (pc := 60) 3 dX1_listAll_60 rfl rfl ?_
            refine s_grd (fun g41 => ?_)
            refine s_idiv (pc := 61) dX1_listAll_61 g41 ?_
            refine s_iload (pc := 62) dX1_listAll_62 rfl ?_
            refine s_iload_n (pc := 64) 3 dX1_listAll_64 rfl rfl ?_
            refine s_grd (fun g42 => ?_)
            refine s_irem (pc := 65) dX1_listAll_65 g42 ?_
            refine s_bind (fun q43 hq44 => ?_)
            have hC45 := t_X1_makes (l := xl X) (G := xG X) hq44
            refine s_callV (pc := 66) (As := [.int s17.2, .int (s30.2 / s27), .int (ir s30.2 s27)]) (st := []) (nlt rfl) (q := (RX1, TX1, 8)) rfl rfl o36 cl_X1_makes wi_X1_makes wl_X1_makes km_X1_88 rfl rfl (nle rfl) (nle rfl) (nle rfl) dX1_listAll_66 hC45 ?_
            have h46 := hC45.1 X
            have o47 := h46.ok o36
            show S0 X _ q43.1 69 [some (.ref (gh (xG X) + a0)), none, some (.int s17.2), some (.int s27), some (.int s30.2), none] [.int q43.2] _
            refine s_istore (pc := 69) dX1_listAll_69 (nlt rfl) rfl (L' := [some (.ref (gh (xG X) + a0)), none, some (.int s17.2), some (.int s27), some (.int s30.2), some (.int q43.2)]) rfl ?_
            refine s_iload (pc := 71) dX1_listAll_71 rfl ?_
            refine s_iconst (pc := 73) (-1) dX1_listAll_73 kc_m1 ?_
            refine s_join q43.1 (fun s49 : Mem => s49) 133 (fun s49 : Mem => [some (.ref (gh (xG X) + a0)), none, some (.int s17.2), some (.int s27), some (.int s30.2), none]) (fun s49 : Mem => []) (fun s49 hs50 => ?_) (fun j48 hj51 => ?_)
            · show S0 X _ s49 133 [some (.ref (gh (xG X) + a0)), none, some (.int s17.2), some (.int s27), some (.int s30.2), none] [] _
              have o52 := hs50.ok o47
              refine s_iinc (pc := 133) dX1_listAll_133 rfl (v := s30.2 + 1) (congrArg (fun z : Int32 => s30.2 + z) kc_1) (nlt rfl) rfl (L' := [some (.ref (gh (xG X) + a0)), none, some (.int s17.2), some (.int s27), some (.int (s30.2 + 1)), none]) rfl ?_
              refine s_bv (fun x53 : Int32 => [some (.ref (gh (xG X) + a0)), none, some (.int s17.2), some (.int s27), some (.int x53), none]) (fun x53 => ?_) rfl
              refine s_goto (pc := 136) 40 dX1_listAll_136 rfl ?_
              exact s_drop (hT33 (s49, x53) (hs31.tr (h46.tr hs50))) (And.intro rfl (And.intro rfl (And.intro rfl (And.intro rfl trivial))))
            · refine s_iceq (pc := 74) 133 dX1_listAll_74 rfl ?_ ?_
              · exact s_drop (hj51 q43.1 Le.rf) (And.intro rfl (And.intro rfl (And.intro rfl (And.intro rfl trivial))))
              · refine s_aload_n (pc := 77) 0 dX1_listAll_77 rfl rfl ?_
                refine s_geti (pc := 78) F_1 5 rfl o47 dX1_listAll_78 kf_X1_82 ?_
                refine s_bipush (pc := 81) 45 dX1_listAll_81 kb_45 ?_
                refine s_icge (pc := 83) 133 dX1_listAll_83 rfl ?_ ?_
                · exact s_drop (hj51 q43.1 Le.rf) (And.intro rfl (And.intro rfl (And.intro rfl (And.intro rfl trivial))))
                · refine s_aload_n (pc := 86) 0 dX1_listAll_86 rfl rfl ?_
                  refine s_geto (pc := 87) F_1 3 rfl o47 dX1_listAll_87 kf_X1_18 ?_
                  refine s_rvB (fun r54 => ?_)
                  refine s_aload_n (pc := 90) 0 dX1_listAll_90 rfl rfl ?_
                  refine s_geti (pc := 91) F_1 5 rfl o47 dX1_listAll_91 kf_X1_82 ?_
                  refine s_iload (pc := 94) dX1_listAll_94 rfl ?_
                  refine s_grd (fun o55 => ?_)
                  refine s_grd (fun i56 => ?_)
                  refine s_iast (pc := 96) o55 i56 dX1_listAll_96 (fun M57 hM58 => ?_)
                  have h59 := le_wI hM58
                  have o60 := h59.ok o47
                  refine s_aload_n (pc := 97) 0 dX1_listAll_97 rfl rfl ?_
                  refine s_geto (pc := 98) F_1 4 rfl o60 dX1_listAll_98 kf_X1_22 ?_
                  refine s_rvB (fun r61 => ?_)
                  refine s_aload_n (pc := 101) 0 dX1_listAll_101 rfl rfl ?_
                  refine s_geti (pc := 102) F_1 5 rfl o60 dX1_listAll_102 kf_X1_82 ?_
                  refine s_aload_n (pc := 105) 0 dX1_listAll_105 rfl rfl ?_
                  refine s_geti (pc := 106) F_1 7 rfl o60 dX1_listAll_106 kf_X1_79 ?_
                  refine s_grd (fun o62 => ?_)
                  refine s_grd (fun i63 => ?_)
                  refine s_iast (pc := 109) o62 i63 dX1_listAll_109 (fun M64 hM65 => ?_)
                  have h66 := le_wI hM65
                  have o67 := h66.ok o60
                  refine s_aload_n (pc := 110) 0 dX1_listAll_110 rfl rfl ?_
                  refine s_dup (pc := 111) dX1_listAll_111 rfl ?_
                  refine s_geti (pc := 112) F_1 6 rfl o67 dX1_listAll_112 kf_X1_85 ?_
                  refine s_aload_n (pc := 115) 0 dX1_listAll_115 rfl rfl ?_
                  refine s_geti (pc := 116) F_1 7 rfl o67 dX1_listAll_116 kf_X1_79 ?_
                  refine s_iadd (pc := 119) dX1_listAll_119 ?_
                  refine s_puti (pc := 120) F_1 6 rfl o67 rfl rfl rfl dX1_listAll_120 kf_X1_85 (fun M68 hM69 => ?_)
                  have h70 := le_wI hM69
                  have o71 := h70.ok o67
                  refine s_aload_n (pc := 123) 0 dX1_listAll_123 rfl rfl ?_
                  refine s_dup (pc := 124) dX1_listAll_124 rfl ?_
                  refine s_geti (pc := 125) F_1 5 rfl o71 dX1_listAll_125 kf_X1_82 ?_
                  refine s_iconst (pc := 128) 1 dX1_listAll_128 kc_1 ?_
                  refine s_iadd (pc := 129) dX1_listAll_129 ?_
                  refine s_puti (pc := 130) F_1 5 rfl o71 rfl rfl rfl dX1_listAll_130 kf_X1_82 (fun M72 hM73 => ?_)
                  have h74 := le_wI hM73
                  have o75 := h74.ok o71
                  exact s_drop (hj51 M72 (h59.tr (h66.tr (h70.tr h74)))) (And.intro rfl (And.intro rfl (And.intro rfl (And.intro rfl trivial))))
      · refine s_icne (pc := 27) 35 dX1_listAll_27 rfl ?_ ?_
        · refine s_iconst (pc := 35) 1 dX1_listAll_35 kc_1 ?_
          exact s_drop (hj29 1 Le.rf) (And.intro rfl (And.intro rfl trivial))
        · refine s_bipush (pc := 30) 6 dX1_listAll_30 kb_6 ?_
          refine s_goto (pc := 32) 36 dX1_listAll_32 rfl ?_
          exact s_drop (hj29 6 Le.rf) (And.intro rfl (And.intro rfl trivial))
